/-! the call of laws: both objects, and the law's case -/
def XLw (c a : Nat) : Prop := a = 1 ∨ (c ≤ a ∧ a < c + 7)
def YLw (a k : Nat) : Prop := (a = 0 ∧ (k = 10 ∨ k = 11)) ∨ (a = 3 ∧ k = 11) ∨ (a = 24 ∧ k = 2)
section LAW
variable {d : Nat} {h h' : aH} {post : Option Value → aH → Prop} {b c : Nat} {x : Int} {X : Int → Int} {k mk m : Int} {S : Nat → Int → Int} {seen saw : Int → Int64} {bk lt : Int → Int} {W : Nat → Int → Int}
theorem ptr0 : (a_ptr 0 10 == 0) = true ∧ (a_ptr 0 11 == 0) = true ∧ a_isI 0 10 = false ∧ a_isI 0 11 = false := by decide +kernel
theorem Lay.swB (hL : Lay h) (q : (b = 59 ∧ c = 66) ∨ (b = 66 ∧ c = 59)) : Lay (a_fset (a_fset h 0 10 (.ref c)) 0 11 (.ref b)) := by
  have fv : ∀ a k, ¬ (a = 0 ∧ (k = 10 ∨ k = 11)) → a_fv (a_fset (a_fset h 0 10 (.ref c)) 0 11 (.ref b)) a k = a_fv h a k := fun a k hn => by
    rw [a_fv_fset, if_neg (by omega), a_fv_fset, if_neg (by omega)]
  have f0 : a_fv (a_fset (a_fset h 0 10 (.ref c)) 0 11 (.ref b)) 0 10 = .ref c := by rw [a_fv_fset, if_neg (by omega), a_fv_fset, if_pos (by omega)]
  have f1 : a_fv (a_fset (a_fset h 0 10 (.ref c)) 0 11 (.ref b)) 0 11 = .ref b := by rw [a_fv_fset, if_pos (by omega)]
  have pt := ptr0
  refine ⟨hL.1, fun a k hk => ?_, fun a k hk => ?_, ?_, ?_, ?_, ?_, hL.2.2.2.2.2.2.2⟩
  · rw [fv a k (fun z => by
      obtain ⟨rfl, rfl | rfl⟩ := z
      · rw [pt.1] at hk; cases hk
      · rw [pt.2.1] at hk; cases hk)]
    exact hL.2.1 a k hk
  · have nz : ¬ (a = 0 ∧ (k = 10 ∨ k = 11)) := fun z => by
      obtain ⟨rfl, rfl | rfl⟩ := z
      · rw [pt.2.2.1] at hk; cases hk
      · rw [pt.2.2.2] at hk; cases hk
    simp only [gf, fv a k nz]
    exact hL.2.2.1 a k hk
  · simp only [gfl, fv 54 2 (by omega)]
    exact hL.2.2.2.1
  · simp only [gfl, fv 73 0 (by omega)]
    exact hL.2.2.2.2.1
  · simp only [a_two, f0, f1]
    rcases q with ⟨rfl, rfl⟩ | ⟨rfl, rfl⟩
    · exact Or.inr ⟨rfl, rfl⟩
    · exact Or.inl ⟨rfl, rfl⟩
  · simp only [a_two, fv 47 0 (by omega), fv 47 1 (by omega)]
    exact hL.2.2.2.2.2.2.1
theorem FrG.fset {Z : Nat → Prop} {Y : Nat → Nat → Prop} {h h' : aH} {a k : Nat} {v : Value} (g : FrG Z Y h h') (ha : Z a ∨ Y a k) : FrG Z Y h (a_fset h' a k v) := fun b hb => ⟨fun j hj => by
  rw [a_fv_fset, if_neg (by
    rintro ⟨e, e2⟩
    subst e; subst e2
    exact ha.elim hb hj)]
  exact (g b hb).1 j hj, (g b hb).2.1, (g b hb).2.2⟩
theorem c_HP_laws (hL : Lay h) (q : (b = 59 ∧ c = 66) ∨ (b = 66 ∧ c = 59)) (hb : a_fv h 0 10 = .ref b) (hc : a_fv h 0 11 = .ref c) (hC : TxC h x X) (hO : TxO x X) (kF : ∀ e h', rall X x 12 0 0 0 W0 = .inl e → Lay h' → FrG (XLw c) YLw h h' → gf h' 1 1 = x → a_fv h' 0 10 = .ref b → gf h' 24 2 = gf h 24 2 → gf h' 3 11 = gf h 3 11 → post (some (.int (I (-10 - e)))) h') (kS : ∀ m W' h', rall X x 12 0 0 0 W0 = .inr (m, W') → Lay h' → FrG (XLw c) YLw h h' → gf h' 1 1 = 0 → a_fv h' 0 10 = .ref c → gf h' 24 2 = -1 → gf h' 3 11 = gf h 3 10 → LwC h' c m W' → LwO m W' → post (some (.int (I m))) h') : R (d + 11) 0 0 135 0 [.ref 0, .null, .null] [] h post := by
  have cc : c = 59 ∨ c = 66 := by omega
  have bb : b = 59 ∨ b = 66 := by omega
  have c3 : ¬ c = 1003 ∧ ¬ b = 1003 ∧ c < 1000 ∧ b < 1000 := by omega
  have toG : ∀ {g g' : aH}, FrD c g g' → FrG (XLw c) YLw g g' := fun f a ha => ⟨fun k _ => (f a ha).1 k, (f a ha).2⟩
  simp (disch := (first | assumption | omega | exact zor_0 | exact zand_0 | exact zandn_0 | exact zbit_0 | exact zxor_0 | exact (bz_01 _).1 | (repeat (first | assumption | refine Lay.sF ?_ rfl | refine Lay.sA ?_ (by decide) | refine Lay.iall ?_ (by decide) | refine Lay.sL ?_ | refine Lay.sFL ?_ (by decide))))) only [e135_0, e135_1, e135_4, e135_5, e135_8, e135_11, e135_12, e135_13, e135_16, e135_18, e135_19, e135_20, e135_21, e135_22, e135_25, e135_26, e135_27, e135_28, e135_31, e135_34, e135_35, e135_36, e135_39, e135_40, e135_43, e135_46, e135_47, e135_50, e135_53, e135_54, e135_57, e135_60, e135_61, e135_64, e135_67, ne_eq, not_false_eq_true, true_and, and_true, reduceCtorEq, Nat.reduceEqDiff, Nat.reduceAdd, Nat.reduceSub, Nat.reduceLeDiff, Nat.reduceLT, Int.reduceEq, Int.reduceLT, Int.reduceLE, Int.reduceNeg, Int.reduceAdd, Int.reduceSub, Int.reduceMul, Int.reduceToNat, Int.cast_ofNat_Int, Int.natCast_zero, Nat.le_refl, Nat.zero_le, if_true, if_false, ite_true, ite_false, and_self, and_false, false_and, or_true, true_or, or_false, false_or, not_true_eq_false, Classical.not_not, not_or, Int.not_lt, Int.not_le, a_clr, Option.toList_some, Option.toList_none, List.cons_append, List.nil_append, a_cw, List.map_cons, List.map_nil, List.sum_cons, List.sum_nil, Value.category, nar_b0, nar_b1, sh_sa, sh_sf, sh_sl, sh_sfl, a_sh_iall, a_fv_iall, fv_sa, fv_sl, fv_sf_eq, fv_sf_ne, fv_sfl_eq, fv_sfl_ne, ga_sf, ga_sl, ga_sfl, ga_sa_ne, ga_sa, ga_iall_ne, gf_sa, gf_iall, gf_sl, gf_sfl, gf_sf_ne, gf_sf_eq, gl_sa, gl_iall, gl_sf, gl_sl_ne, gl_sl, gfl_sa, gfl_iall, gfl_sl, gfl_sf, gfl_sfl_ne, gfl_sfl_eq, ld_a, ld_0, ld_1, ld_2, st_a, st_0, st_f, ld_l, st_l, st_fl, sa_sa, sf_sf, sfl_sfl, k_max, k_far, k_no, zadd, zsub, zmul, zneg, zmax, zmin, zabs, zltI, zleI, zeqI, zlt0I, zle0I, z0ltI, z0leI, zeq0I, ti_ga, ti_gf, ti_bz, ztoInt, zinT, zix, bz_eq0, bz_eq1, bz_e0, bz_e1, bz_eqb, bz_or1, bz_True, bz_False, zor_i, zand_i, zxor_i, zandn_i, zandn_i2, zbit_i, ib_i, nB0, nB1, nBz, fk_T, fk_F, fk_pos, fk_neg, fk_same, fk_not, fk_and, fk_andn, fk_nand, fk_or, fkP10, fkP01, fkP0z, fkPz0, fkP1z, fkPz1, layHP hL, hc, c3, (layReader hL).1]
  refine c_Reader_readInto hL hC hO cc (fun e h1 a0 a1 a2 => ?_) (fun m W' h1 a0 a1 a2 a3 a4 a5 => ?_)
  · obtain ⟨b1, b2, b3, b4⟩ := a1
    simp (disch := (first | assumption | omega | exact zor_0 | exact zand_0 | exact zandn_0 | exact zbit_0 | exact zxor_0 | exact (bz_01 _).1 | (repeat (first | assumption | refine Lay.sF ?_ rfl | refine Lay.sA ?_ (by decide) | refine Lay.iall ?_ (by decide) | refine Lay.sL ?_ | refine Lay.sFL ?_ (by decide))))) only [e135_0, e135_1, e135_4, e135_5, e135_8, e135_11, e135_12, e135_13, e135_16, e135_18, e135_19, e135_20, e135_21, e135_22, e135_25, e135_26, e135_27, e135_28, e135_31, e135_34, e135_35, e135_36, e135_39, e135_40, e135_43, e135_46, e135_47, e135_50, e135_53, e135_54, e135_57, e135_60, e135_61, e135_64, e135_67, ne_eq, not_false_eq_true, true_and, and_true, reduceCtorEq, Nat.reduceEqDiff, Nat.reduceAdd, Nat.reduceSub, Nat.reduceLeDiff, Nat.reduceLT, Int.reduceEq, Int.reduceLT, Int.reduceLE, Int.reduceNeg, Int.reduceAdd, Int.reduceSub, Int.reduceMul, Int.reduceToNat, Int.cast_ofNat_Int, Int.natCast_zero, Nat.le_refl, Nat.zero_le, if_true, if_false, ite_true, ite_false, and_self, and_false, false_and, or_true, true_or, or_false, false_or, not_true_eq_false, Classical.not_not, not_or, Int.not_lt, Int.not_le, a_clr, Option.toList_some, Option.toList_none, List.cons_append, List.nil_append, a_cw, List.map_cons, List.map_nil, List.sum_cons, List.sum_nil, Value.category, nar_b0, nar_b1, sh_sa, sh_sf, sh_sl, sh_sfl, a_sh_iall, a_fv_iall, fv_sa, fv_sl, fv_sf_eq, fv_sf_ne, fv_sfl_eq, fv_sfl_ne, ga_sf, ga_sl, ga_sfl, ga_sa_ne, ga_sa, ga_iall_ne, gf_sa, gf_iall, gf_sl, gf_sfl, gf_sf_ne, gf_sf_eq, gl_sa, gl_iall, gl_sf, gl_sl_ne, gl_sl, gfl_sa, gfl_iall, gfl_sl, gfl_sf, gfl_sfl_ne, gfl_sfl_eq, ld_a, ld_0, ld_1, ld_2, st_a, st_0, st_f, ld_l, st_l, st_fl, sa_sa, sf_sf, sfl_sfl, k_max, k_far, k_no, zadd, zsub, zmul, zneg, zmax, zmin, zabs, zltI, zleI, zeqI, zlt0I, zle0I, z0ltI, z0leI, zeq0I, ti_ga, ti_gf, ti_bz, ztoInt, zinT, zix, bz_eq0, bz_eq1, bz_e0, bz_e1, bz_eqb, bz_or1, bz_True, bz_False, zor_i, zand_i, zxor_i, zandn_i, zandn_i2, zbit_i, ib_i, nB0, nB1, nBz, fk_T, fk_F, fk_pos, fk_neg, fk_same, fk_not, fk_and, fk_andn, fk_nand, fk_or, fkP10, fkP01, fkP0z, fkPz0, fkP1z, fkPz1]
    exact kF e h1 a0 b1 (toG b2) b3 (((b2 0 (by omega)).1 10).trans hb) (by simp only [gf, (b2 24 (by omega)).1]) (by simp only [gf, (b2 3 (by omega)).1])
  · have hb1 : a_fv h1 0 10 = .ref b := ((a2 0 (by omega)).1 10).trans hb
    have hc1 : a_fv h1 0 11 = .ref c := ((a2 0 (by omega)).1 11).trans hc
    have l2 := a1.swB q
    have g10 : gf (a_fset (a_fset h1 0 10 (.ref c)) 0 11 (.ref b)) 3 10 = gf h 3 10 := by
      simp only [gf, a_fv_fset]
      rw [if_neg (by omega), if_neg (by omega), (a2 3 (by omega)).1]
    have r10 := gf_r h 3 10
    have l3 : Lay (sf (a_fset (a_fset h1 0 10 (.ref c)) 0 11 (.ref b)) 1 1 0) := l2.sF rfl
    have l4 : Lay (sf (sf (a_fset (a_fset h1 0 10 (.ref c)) 0 11 (.ref b)) 1 1 0) 3 11 (gf h 3 10)) := l3.sF rfl
    have l5 : Lay (sf (sf (sf (a_fset (a_fset h1 0 10 (.ref c)) 0 11 (.ref b)) 1 1 0) 3 11 (gf h 3 10)) 24 2 (-1)) := l4.sF rfl
    have lw : LwC (sf (sf (sf (a_fset (a_fset h1 0 10 (.ref c)) 0 11 (.ref b)) 1 1 0) 3 11 (gf h 3 10)) 24 2 (-1)) c m W' := by
      have fr : Fr 0 25 h1 (sf (sf (sf (a_fset (a_fset h1 0 10 (.ref c)) 0 11 (.ref b)) 1 1 0) 3 11 (gf h 3 10)) 24 2 (-1)) := ((((Fr.id.fset (by omega)).fset (by omega)).sF (by omega)).sF (by omega)).sF (by omega)
      exact a4.fr fr (by omega)
    have fp : a_fv (sf (sf (sf (a_fset (a_fset h1 0 10 (.ref c)) 0 11 (.ref b)) 1 1 0) 3 11 (gf h 3 10)) 24 2 (-1)) 0 10 = .ref c := by
      rw [fv_sf_ne (by omega), fv_sf_ne (by omega), fv_sf_ne (by omega), a_fv_fset, if_neg (by omega), a_fv_fset, if_pos (by omega)]
    have fg : FrG (XLw c) YLw h (sf (sf (sf (a_fset (a_fset h1 0 10 (.ref c)) 0 11 (.ref b)) 1 1 0) 3 11 (gf h 3 10)) 24 2 (-1)) := (((((toG a2).fset (Or.inr (by unfold YLw; omega))).fset (Or.inr (by unfold YLw; omega))).sF (Or.inl (by unfold XLw; omega))).sF (Or.inr (by unfold YLw; omega))).sF (Or.inr (by unfold YLw; omega))
    have kS := kS m W' _ a0 l5 fg (by rw [gf_sf_ne (by omega), gf_sf_ne (by omega), gf_sf_eq (by omega) (by omega)]) fp (by rw [gf_sf_eq (by omega) (by omega)]) (by rw [gf_sf_ne (by omega), gf_sf_eq (by omega) (by omega)]) lw a5
    have g2 : gf (sf (a_fset (a_fset h1 0 10 (.ref c)) 0 11 (.ref b)) 1 1 0) 3 10 = gf h 3 10 := (gf_sf_ne (by omega)).trans g10
    have fp0 : a_fv (a_fset (a_fset h1 0 10 (.ref c)) 0 11 (.ref b)) = a_fv (a_fset (a_fset h1 0 10 (.ref c)) 0 11 (.ref b)) := rfl
    simp (disch := (first | assumption | omega | exact zor_0 | exact zand_0 | exact zandn_0 | exact zbit_0 | exact zxor_0 | exact (bz_01 _).1 | (repeat (first | assumption | refine Lay.sF ?_ rfl | refine Lay.sA ?_ (by decide) | refine Lay.iall ?_ (by decide) | refine Lay.sL ?_ | refine Lay.sFL ?_ (by decide))))) only [e135_0, e135_1, e135_4, e135_5, e135_8, e135_11, e135_12, e135_13, e135_16, e135_18, e135_19, e135_20, e135_21, e135_22, e135_25, e135_26, e135_27, e135_28, e135_31, e135_34, e135_35, e135_36, e135_40, e135_43, e135_46, e135_47, e135_50, e135_53, e135_54, e135_57, e135_60, e135_61, e135_64, e135_67, ne_eq, not_false_eq_true, true_and, and_true, reduceCtorEq, Nat.reduceEqDiff, Nat.reduceAdd, Nat.reduceSub, Nat.reduceLeDiff, Nat.reduceLT, Int.reduceEq, Int.reduceLT, Int.reduceLE, Int.reduceNeg, Int.reduceAdd, Int.reduceSub, Int.reduceMul, Int.reduceToNat, Int.cast_ofNat_Int, Int.natCast_zero, Nat.le_refl, Nat.zero_le, if_true, if_false, ite_true, ite_false, and_self, and_false, false_and, or_true, true_or, or_false, false_or, not_true_eq_false, Classical.not_not, not_or, Int.not_lt, Int.not_le, a_clr, Option.toList_some, Option.toList_none, List.cons_append, List.nil_append, a_cw, List.map_cons, List.map_nil, List.sum_cons, List.sum_nil, Value.category, nar_b0, nar_b1, sh_sa, sh_sf, sh_sl, sh_sfl, a_sh_iall, a_fv_iall, fv_sa, fv_sl, fv_sf_eq, fv_sf_ne, fv_sfl_eq, fv_sfl_ne, ga_sf, ga_sl, ga_sfl, ga_sa_ne, ga_sa, ga_iall_ne, gf_sa, gf_iall, gf_sl, gf_sfl, gf_sf_ne, gf_sf_eq, gl_sa, gl_iall, gl_sf, gl_sl_ne, gl_sl, gfl_sa, gfl_iall, gfl_sl, gfl_sf, gfl_sfl_ne, gfl_sfl_eq, ld_a, ld_0, ld_1, ld_2, st_a, st_0, st_f, ld_l, st_l, st_fl, sa_sa, sf_sf, sfl_sfl, k_max, k_far, k_no, zadd, zsub, zmul, zneg, zmax, zmin, zabs, zltI, zleI, zeqI, zlt0I, zle0I, z0ltI, z0leI, zeq0I, ti_ga, ti_gf, ti_bz, ztoInt, zinT, zix, bz_eq0, bz_eq1, bz_e0, bz_e1, bz_eqb, bz_or1, bz_True, bz_False, zor_i, zand_i, zxor_i, zandn_i, zandn_i2, zbit_i, ib_i, nB0, nB1, nBz, fk_T, fk_F, fk_pos, fk_neg, fk_same, fk_not, fk_and, fk_andn, fk_nand, fk_or, fkP10, fkP01, fkP0z, fkPz0, fkP1z, fkPz1, layHP a1, hb1, hc1, c3, a_sh_fset]
    simp (disch := (first | assumption | omega | exact zor_0 | exact zand_0 | exact zandn_0 | exact zbit_0 | exact zxor_0 | exact (bz_01 _).1 | (repeat (first | assumption | refine Lay.sF ?_ rfl | refine Lay.sA ?_ (by decide) | refine Lay.iall ?_ (by decide) | refine Lay.sL ?_ | refine Lay.sFL ?_ (by decide))))) only [e135_0, e135_1, e135_4, e135_5, e135_8, e135_11, e135_12, e135_13, e135_16, e135_18, e135_19, e135_20, e135_21, e135_22, e135_25, e135_26, e135_27, e135_28, e135_31, e135_34, e135_35, e135_36, e135_39, e135_40, e135_43, e135_46, e135_47, e135_50, e135_53, e135_54, e135_57, e135_60, e135_61, e135_64, e135_67, e81_0, e81_1, e81_2, e81_5, e106_0, e106_1, e106_2, e106_5, e106_8, e95_0, e95_1, e95_2, e95_5, ne_eq, not_false_eq_true, true_and, and_true, reduceCtorEq, Nat.reduceEqDiff, Nat.reduceAdd, Nat.reduceSub, Nat.reduceLeDiff, Nat.reduceLT, Int.reduceEq, Int.reduceLT, Int.reduceLE, Int.reduceNeg, Int.reduceAdd, Int.reduceSub, Int.reduceMul, Int.reduceToNat, Int.cast_ofNat_Int, Int.natCast_zero, Nat.le_refl, Nat.zero_le, if_true, if_false, ite_true, ite_false, and_self, and_false, false_and, or_true, true_or, or_false, false_or, not_true_eq_false, Classical.not_not, not_or, Int.not_lt, Int.not_le, a_clr, Option.toList_some, Option.toList_none, List.cons_append, List.nil_append, a_cw, List.map_cons, List.map_nil, List.sum_cons, List.sum_nil, Value.category, nar_b0, nar_b1, sh_sa, sh_sf, sh_sl, sh_sfl, a_sh_iall, a_fv_iall, fv_sa, fv_sl, fv_sf_eq, fv_sf_ne, fv_sfl_eq, fv_sfl_ne, ga_sf, ga_sl, ga_sfl, ga_sa_ne, ga_sa, ga_iall_ne, gf_sa, gf_iall, gf_sl, gf_sfl, gf_sf_ne, gf_sf_eq, gl_sa, gl_iall, gl_sf, gl_sl_ne, gl_sl, gfl_sa, gfl_iall, gfl_sl, gfl_sf, gfl_sfl_ne, gfl_sfl_eq, ld_a, ld_0, ld_1, ld_2, st_a, st_0, st_f, ld_l, st_l, st_fl, sa_sa, sf_sf, sfl_sfl, k_max, k_far, k_no, zadd, zsub, zmul, zneg, zmax, zmin, zabs, zltI, zleI, zeqI, zlt0I, zle0I, z0ltI, z0leI, zeq0I, ti_ga, ti_gf, ti_bz, ztoInt, zinT, zix, bz_eq0, bz_eq1, bz_e0, bz_e1, bz_eqb, bz_or1, bz_True, bz_False, zor_i, zand_i, zxor_i, zandn_i, zandn_i2, zbit_i, ib_i, nB0, nB1, nBz, fk_T, fk_F, fk_pos, fk_neg, fk_same, fk_not, fk_and, fk_andn, fk_nand, fk_or, fkP10, fkP01, fkP0z, fkPz0, fkP1z, fkPz1, layHP l2, layHP l3, layHP l4, layHP l5, (layReader l2), layStory l3, laySetting l4, g2, g10, fp, (layLaws l5 cc).1, q_Laws_size l5 lw, c3]
    exact kS
end LAW
