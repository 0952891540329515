/-! SET along one axis in the object: whole -/
theorem wcnt_le {W : Nat → Int → Int} {m : Int} {Q : Int → Prop} (hQ : ∀ l, 0 ≤ l → l < m → Q l → ¬ W 4 l = 0) : ∀ n : Nat, (n : Int) ≤ m → cnt Q n ≤ wcnt W n := by
  intro n
  induction n with
  | zero => exact fun _ => Int.le_refl _
  | succ n ih =>
    intro hn
    have ih := ih (by omega)
    have b := bz_01 (¬ W 4 n = 0)
    simp only [cnt, wcnt]
    by_cases c : Q n
    · rw [bz_T c, bz_T (hQ n (by omega) (by omega) c)]; omega
    · rw [bz_F c]; omega
theorem FrG.fr {X : Nat → Prop} {Y : Nat → Nat → Prop} {h h' : aH} {lo hi : Nat} (f : FrG X Y h h') (hx : ∀ a, X a → lo ≤ a ∧ a < hi) (hy : ∀ a k, Y a k → lo ≤ a ∧ a < hi) : Fr lo hi h h' := fun a ha => by
  have := f a (fun z => by have := hx a z; omega)
  exact ⟨fun k => this.1 k (fun z => by have := hy a k z; omega), this.2⟩
section STW
variable {d : Nat} {h : aH} {post : Option Value → aH → Prop} {b s bb : Nat} {W : Nat → Int → Int} {m C F Wd S : Int} {st : Int → Int} {T : Prop}
theorem c_Axis_settle (hL : Lay h) (hb : isX b) (hW : LwC h bb m W) (hO : LwO m W) (hS : 2 ≤ S ∧ S ≤ 20) (hC : 0 ≤ C ∧ C < 4096) (hF : ∀ l, 0 ≤ l → l < m → ((W 4 l = 0 ∧ ib C l) ↔ (ib F l ∧ (tal (W 0 l) ↔ T)))) (hWd : ∀ l, 0 ≤ l → l < m → ((ib C l ∧ ¬ W 4 l = 0) ↔ (ib Wd l ∧ (tal (W 0 l) ↔ T)))) (hs : a_sh h s = (2, 0, 6)) (hs2 : s < 24) (hsd : SA h s st) (hr2 : ∀ p, in6 p → 0 ≤ st p ∧ st p ≤ 19) (kF : ∀ h', Lay h' → Fr b (b + 10) h h' → (∀ x y z, ¬ cand W m F Wd T S st (fun _ => True) x y z) → post (some (.int (I 0))) h') (kT : ∀ h' w, Lay h' → Fr b (b + 10) h h' → opt (cand W m F Wd T S st (fun _ => True)) (gf h' b 8) (gf h' b 9) w → (0 ≤ gf h' b 8 ∧ gf h' b 8 ≤ 108 ∧ 0 ≤ gf h' b 9 ∧ gf h' b 9 ≤ 1000) → SA h' (b + 7) w → post (some (.int (I 1))) h') : R (d + 4) 0 0 4 0 [.ref b, .ref bb, .int (I C), .int (I S), .ref s, .null, .null] [] h post := by
  have b3 := isX3 hb
  have bb3 := b1003 hW
  have s3 : ¬ s = 1003 := by omega
  have hm := hO.1
  have hx : b = 25 ∨ b = 35 := hb
  have hbb := hW.1
  have i8 := (isI7 hb).2.1
  have F0 := bset_lt12 (P := fun i => W 4 i = 0 ∧ ib C i) hm
  have sL : ∀ h', Lay h' → a_sh h' s = (2, 0, 6) := fun h' z => by rw [z.1 s (by omega), ← hL.1 s (by omega)]; exact hs
  simp (disch := (first | assumption | omega | exact zor_0 | exact zand_0 | exact zandn_0 | exact zbit_0 | exact zxor_0 | exact (bz_01 _).1 | (repeat (first | assumption | refine Lay.sF ?_ rfl | refine Lay.sA ?_ (by decide) | refine Lay.iall ?_ (by decide) | refine Lay.sL ?_ | refine Lay.sFL ?_ (by decide))))) only [e4_0, e4_1, e4_2, e4_5, e4_7, e4_8, e4_11, e4_12, e4_15, e4_16, e4_19, e4_20, e4_22, e4_25, e4_28, e4_29, e4_30, e4_31, e4_32, e4_33, e4_35, e4_36, e4_37, e4_38, e4_41, e4_42, e4_43, e4_46, e4_47, e4_48, e4_51, e4_52, e4_53, e4_54, e4_58, e4_61, e4_62, e4_63, e4_65, e4_67, e4_70, e4_73, e4_76, e4_77, ne_eq, not_false_eq_true, true_and, and_true, reduceCtorEq, Nat.reduceEqDiff, Nat.reduceAdd, Nat.reduceSub, Nat.reduceLeDiff, Nat.reduceLT, Int.reduceEq, Int.reduceLT, Int.reduceLE, Int.reduceNeg, Int.reduceAdd, Int.reduceSub, Int.reduceMul, Int.reduceToNat, Int.cast_ofNat_Int, Int.natCast_zero, Nat.le_refl, Nat.zero_le, if_true, if_false, ite_true, ite_false, and_self, and_false, false_and, or_true, true_or, or_false, false_or, not_true_eq_false, Classical.not_not, not_or, Int.not_lt, Int.not_le, a_clr, Option.toList_some, Option.toList_none, List.cons_append, List.nil_append, a_cw, List.map_cons, List.map_nil, List.sum_cons, List.sum_nil, Value.category, nar_b0, nar_b1, sh_sa, sh_sf, sh_sl, sh_sfl, a_sh_iall, a_fv_iall, fv_sa, fv_sl, fv_sf_eq, fv_sf_ne, fv_sfl_eq, fv_sfl_ne, ga_sf, ga_sl, ga_sfl, ga_sa_ne, ga_sa, ga_iall_ne, gf_sa, gf_iall, gf_sl, gf_sfl, gf_sf_ne, gf_sf_eq, gl_sa, gl_iall, gl_sf, gl_sl_ne, gl_sl, gfl_sa, gfl_iall, gfl_sl, gfl_sf, gfl_sfl_ne, gfl_sfl_eq, ld_a, ld_0, ld_1, ld_2, st_a, st_0, st_f, ld_l, st_l, st_fl, sa_sa, sf_sf, sfl_sfl, k_max, k_far, k_no, zadd, zsub, zmul, zneg, zmax, zmin, zabs, zltI, zleI, zeqI, zlt0I, zle0I, z0ltI, z0leI, zeq0I, ti_ga, ti_gf, ti_bz, ztoInt, zinT, zix, bz_eq0, bz_eq1, bz_e0, bz_e1, bz_eqb, bz_or1, bz_True, bz_False, zor_i, zand_i, zxor_i, zandn_i, zandn_i2, zbit_i, ib_i, nB0, nB1, nBz, fk_T, fk_F, fk_pos, fk_neg, fk_same, fk_not, fk_and, fk_andn, fk_nand, fk_or, fkP10, fkP01, fkP0z, fkPz0, fkP1z, fkPz1, layAxis hL hb, (layLaws hL hbb).1, b3, bb3, q_Laws_firm hL hW hC.1]
  refine c_Gaps_openSheet hL (isXG hb).1 hS (fun h1 a1 a2 a3 => ?_)
  have hW1 := hW.fr a2 (by omega)
  simp (disch := (first | assumption | omega | exact zor_0 | exact zand_0 | exact zandn_0 | exact zbit_0 | exact zxor_0 | exact (bz_01 _).1 | (repeat (first | assumption | refine Lay.sF ?_ rfl | refine Lay.sA ?_ (by decide) | refine Lay.iall ?_ (by decide) | refine Lay.sL ?_ | refine Lay.sFL ?_ (by decide))))) only [e4_0, e4_1, e4_2, e4_5, e4_7, e4_8, e4_11, e4_12, e4_15, e4_16, e4_19, e4_20, e4_22, e4_25, e4_28, e4_29, e4_30, e4_31, e4_32, e4_33, e4_35, e4_36, e4_37, e4_38, e4_41, e4_42, e4_43, e4_46, e4_47, e4_48, e4_51, e4_52, e4_53, e4_54, e4_58, e4_61, e4_62, e4_63, e4_65, e4_67, e4_70, e4_73, e4_76, e4_77, ne_eq, not_false_eq_true, true_and, and_true, reduceCtorEq, Nat.reduceEqDiff, Nat.reduceAdd, Nat.reduceSub, Nat.reduceLeDiff, Nat.reduceLT, Int.reduceEq, Int.reduceLT, Int.reduceLE, Int.reduceNeg, Int.reduceAdd, Int.reduceSub, Int.reduceMul, Int.reduceToNat, Int.cast_ofNat_Int, Int.natCast_zero, Nat.le_refl, Nat.zero_le, if_true, if_false, ite_true, ite_false, and_self, and_false, false_and, or_true, true_or, or_false, false_or, not_true_eq_false, Classical.not_not, not_or, Int.not_lt, Int.not_le, a_clr, Option.toList_some, Option.toList_none, List.cons_append, List.nil_append, a_cw, List.map_cons, List.map_nil, List.sum_cons, List.sum_nil, Value.category, nar_b0, nar_b1, sh_sa, sh_sf, sh_sl, sh_sfl, a_sh_iall, a_fv_iall, fv_sa, fv_sl, fv_sf_eq, fv_sf_ne, fv_sfl_eq, fv_sfl_ne, ga_sf, ga_sl, ga_sfl, ga_sa_ne, ga_sa, ga_iall_ne, gf_sa, gf_iall, gf_sl, gf_sfl, gf_sf_ne, gf_sf_eq, gl_sa, gl_iall, gl_sf, gl_sl_ne, gl_sl, gfl_sa, gfl_iall, gfl_sl, gfl_sf, gfl_sfl_ne, gfl_sfl_eq, ld_a, ld_0, ld_1, ld_2, st_a, st_0, st_f, ld_l, st_l, st_fl, sa_sa, sf_sf, sfl_sfl, k_max, k_far, k_no, zadd, zsub, zmul, zneg, zmax, zmin, zabs, zltI, zleI, zeqI, zlt0I, zle0I, z0ltI, z0leI, zeq0I, ti_ga, ti_gf, ti_bz, ztoInt, zinT, zix, bz_eq0, bz_eq1, bz_e0, bz_e1, bz_eqb, bz_or1, bz_True, bz_False, zor_i, zand_i, zxor_i, zandn_i, zandn_i2, zbit_i, ib_i, nB0, nB1, nBz, fk_T, fk_F, fk_pos, fk_neg, fk_same, fk_not, fk_and, fk_andn, fk_nand, fk_or, fkP10, fkP01, fkP0z, fkPz0, fkP1z, fkPz1, layAxis a1 hb, (layLaws a1 hbb).1, b3, bb3]
  have eqF : ∀ u, satN W (bset (fun i => W 4 i = 0 ∧ ib C i) m.toNat) m (ex u) ↔ satN W (axS W F T m) m u := fun u => by
    rw [satN_congr hO (fun p hp => exP hp)]
    constructor
    · intro z l l0 l1 hl
      have := (hF l l0 l1).mpr ((ib_axS l0 l1).mp hl)
      exact z l l0 l1 ((ib_bset l0).mpr ⟨by omega, this⟩)
    · intro z l l0 l1 hl
      have := (hF l l0 l1).mp ((ib_bset l0).mp hl).2
      exact z l l0 l1 ((ib_axS l0 l1).mpr this)
  have eqS : ∀ u, obey (shD S) (ex u) ↔ onS S u := fun u => by
    rw [shD_obey hS]
    constructor
    · intro z p hp
      have := z p hp.1 hp.2
      rw [ex6, exP hp] at this
      omega
    · intro z p p0 p1
      have := z p ⟨p0, p1⟩
      rw [ex6, exP ⟨p0, p1⟩]
      omega
  refine c_Gaps_askAll a1 (isXG hb).1 (shD_cl hS) a3 hW1 hO F0 (fun h2 c1 c2 c3 => ?_) (fun h2 D c1 c2 c3 c4 c5 => ?_)
  · simp (disch := (first | assumption | omega | exact zor_0 | exact zand_0 | exact zandn_0 | exact zbit_0 | exact zxor_0 | exact (bz_01 _).1 | (repeat (first | assumption | refine Lay.sF ?_ rfl | refine Lay.sA ?_ (by decide) | refine Lay.iall ?_ (by decide) | refine Lay.sL ?_ | refine Lay.sFL ?_ (by decide))))) only [e4_0, e4_1, e4_2, e4_5, e4_7, e4_8, e4_11, e4_12, e4_15, e4_16, e4_19, e4_20, e4_22, e4_25, e4_28, e4_29, e4_30, e4_31, e4_32, e4_33, e4_35, e4_36, e4_37, e4_38, e4_41, e4_42, e4_43, e4_46, e4_47, e4_48, e4_51, e4_52, e4_53, e4_54, e4_58, e4_61, e4_62, e4_63, e4_65, e4_67, e4_70, e4_73, e4_76, e4_77, ne_eq, not_false_eq_true, true_and, and_true, reduceCtorEq, Nat.reduceEqDiff, Nat.reduceAdd, Nat.reduceSub, Nat.reduceLeDiff, Nat.reduceLT, Int.reduceEq, Int.reduceLT, Int.reduceLE, Int.reduceNeg, Int.reduceAdd, Int.reduceSub, Int.reduceMul, Int.reduceToNat, Int.cast_ofNat_Int, Int.natCast_zero, Nat.le_refl, Nat.zero_le, if_true, if_false, ite_true, ite_false, and_self, and_false, false_and, or_true, true_or, or_false, false_or, not_true_eq_false, Classical.not_not, not_or, Int.not_lt, Int.not_le, a_clr, Option.toList_some, Option.toList_none, List.cons_append, List.nil_append, a_cw, List.map_cons, List.map_nil, List.sum_cons, List.sum_nil, Value.category, nar_b0, nar_b1, sh_sa, sh_sf, sh_sl, sh_sfl, a_sh_iall, a_fv_iall, fv_sa, fv_sl, fv_sf_eq, fv_sf_ne, fv_sfl_eq, fv_sfl_ne, ga_sf, ga_sl, ga_sfl, ga_sa_ne, ga_sa, ga_iall_ne, gf_sa, gf_iall, gf_sl, gf_sfl, gf_sf_ne, gf_sf_eq, gl_sa, gl_iall, gl_sf, gl_sl_ne, gl_sl, gfl_sa, gfl_iall, gfl_sl, gfl_sf, gfl_sfl_ne, gfl_sfl_eq, ld_a, ld_0, ld_1, ld_2, st_a, st_0, st_f, ld_l, st_l, st_fl, sa_sa, sf_sf, sfl_sfl, k_max, k_far, k_no, zadd, zsub, zmul, zneg, zmax, zmin, zabs, zltI, zleI, zeqI, zlt0I, zle0I, z0ltI, z0leI, zeq0I, ti_ga, ti_gf, ti_bz, ztoInt, zinT, zix, bz_eq0, bz_eq1, bz_e0, bz_e1, bz_eqb, bz_or1, bz_True, bz_False, zor_i, zand_i, zxor_i, zandn_i, zandn_i2, zbit_i, ib_i, nB0, nB1, nBz, fk_T, fk_F, fk_pos, fk_neg, fk_same, fk_not, fk_and, fk_andn, fk_nand, fk_or, fkP10, fkP01, fkP0z, fkPz0, fkP1z, fkPz1]
    refine kF h2 c1 ((a2.mono (by omega) (by omega)).trans (c2.mono (by omega) (by omega))) (fun x y z k => ?_)
    obtain ⟨Y, _, _, k3, _⟩ := k
    have f := rs_fea (satN_lat hO) k3
    refine c3 _ ((eqS z).mpr f.1) ((eqF z).mpr (fun l l0 l1 hl => f.2 l l0 l1 ?_))
    have := (ib_axS l0 l1).mp hl
    exact (ib_axS l0 l1).mpr ⟨by rw [ib_zor]; exact Or.inl this.1, this.2⟩
  · have hD : ∀ u, obey D (ex u) ↔ onS S u ∧ satN W (axS W F T m) m u := fun u => by rw [c5 (ex u), eqS, eqF]
    have fr2 : Fr b (b + 10) h h2 := (a2.mono (by omega) (by omega)).trans (c2.mono (by omega) (by omega))
    have hW2 := hW1.fr c2 (by omega)
    obtain ⟨v0, hv0⟩ : ∃ u, onS S u ∧ satN W (axS W F T m) m u := by
      have i6 : in7 6 := by unfold in7; omega
      have o := obey_row c4 i6
      refine ⟨fun p => D 6 p, (hD _).mp (fun i j hi hj => ?_)⟩
      have e : ∀ i, in7 i → ex (fun p => D 6 p) i = D 6 i := fun i hi => by
        by_cases c : i = 6
        · subst c; rw [ex6, c4.1 6 i6]
        · rw [exP (in76 hi c)]
      rw [e i hi, e j hj]
      exact o i j hi hj
    generalize hFm : bset (fun i => W 4 i = 0 ∧ ib C i) m.toNat = Fm at *
    have am0 := zandn_0 (a := C) (b := Fm)
    have am1 : zandn C Fm < 4096 := zandn_lt (n := 12) hC.2 hC.1
    have amI : ∀ l, 0 ≤ l → l < m → (ib (zandn C Fm) l ↔ (ib C l ∧ ¬ W 4 l = 0)) := fun l l0 l1 => by
      rw [ib_zandn, ← hFm, ib_bset l0]
      constructor
      · exact fun z => ⟨z.1, fun y => z.2 ⟨by omega, y, z.1⟩⟩
      · exact fun z => ⟨z.1, fun y => z.2 y.2.1⟩
    have am6 : cnt (ib (zandn C Fm)) m.toNat ≤ 6 := Int.le_trans (wcnt_le (fun l l0 l1 z => ((amI l l0 l1).mp z).2) m.toNat (by omega)) hO.2.2
    have hd2 : ∀ l, 0 ≤ l → l < m → (ib (zandn C Fm) l ↔ ib Wd l ∧ (tal (W 0 l) ↔ T)) := fun l l0 l1 => by rw [amI l l0 l1, hWd l l0 l1]
    simp (disch := (first | assumption | omega | exact zor_0 | exact zand_0 | exact zandn_0 | exact zbit_0 | exact zxor_0 | exact (bz_01 _).1 | (repeat (first | assumption | refine Lay.sF ?_ rfl | refine Lay.sA ?_ (by decide) | refine Lay.iall ?_ (by decide) | refine Lay.sL ?_ | refine Lay.sFL ?_ (by decide))))) only [e4_0, e4_1, e4_2, e4_5, e4_7, e4_8, e4_11, e4_12, e4_15, e4_16, e4_19, e4_20, e4_22, e4_25, e4_28, e4_29, e4_30, e4_31, e4_32, e4_33, e4_35, e4_36, e4_37, e4_38, e4_41, e4_42, e4_43, e4_46, e4_47, e4_48, e4_51, e4_52, e4_53, e4_54, e4_58, e4_61, e4_62, e4_63, e4_65, e4_67, e4_70, e4_73, e4_76, e4_77, ne_eq, not_false_eq_true, true_and, and_true, reduceCtorEq, Nat.reduceEqDiff, Nat.reduceAdd, Nat.reduceSub, Nat.reduceLeDiff, Nat.reduceLT, Int.reduceEq, Int.reduceLT, Int.reduceLE, Int.reduceNeg, Int.reduceAdd, Int.reduceSub, Int.reduceMul, Int.reduceToNat, Int.cast_ofNat_Int, Int.natCast_zero, Nat.le_refl, Nat.zero_le, if_true, if_false, ite_true, ite_false, and_self, and_false, false_and, or_true, true_or, or_false, false_or, not_true_eq_false, Classical.not_not, not_or, Int.not_lt, Int.not_le, a_clr, Option.toList_some, Option.toList_none, List.cons_append, List.nil_append, a_cw, List.map_cons, List.map_nil, List.sum_cons, List.sum_nil, Value.category, nar_b0, nar_b1, sh_sa, sh_sf, sh_sl, sh_sfl, a_sh_iall, a_fv_iall, fv_sa, fv_sl, fv_sf_eq, fv_sf_ne, fv_sfl_eq, fv_sfl_ne, ga_sf, ga_sl, ga_sfl, ga_sa_ne, ga_sa, ga_iall_ne, gf_sa, gf_iall, gf_sl, gf_sfl, gf_sf_ne, gf_sf_eq, gl_sa, gl_iall, gl_sf, gl_sl_ne, gl_sl, gfl_sa, gfl_iall, gfl_sl, gfl_sf, gfl_sfl_ne, gfl_sfl_eq, ld_a, ld_0, ld_1, ld_2, st_a, st_0, st_f, ld_l, st_l, st_fl, sa_sa, sf_sf, sfl_sfl, k_max, k_far, k_no, zadd, zsub, zmul, zneg, zmax, zmin, zabs, zltI, zleI, zeqI, zlt0I, zle0I, z0ltI, z0leI, zeq0I, ti_ga, ti_gf, ti_bz, ztoInt, zinT, zix, bz_eq0, bz_eq1, bz_e0, bz_e1, bz_eqb, bz_or1, bz_True, bz_False, zor_i, zand_i, zxor_i, zandn_i, zandn_i2, zbit_i, ib_i, nB0, nB1, nBz, fk_T, fk_F, fk_pos, fk_neg, fk_same, fk_not, fk_and, fk_andn, fk_nand, fk_or, fkP10, fkP01, fkP0z, fkPz0, fkP1z, fkPz1, layAxis c1 hb, (layLaws c1 hbb).1, b3, bb3]
    refine c_Axis_gather c1 hb hW2 hO ⟨am0, am1⟩ am6 (fun h3 e1 e2 e3 e4 => ?_)
    have q : Wsh m (zandn C Fm) (fun j => ga h3 (b + 5) j) (cnt (ib (zandn C Fm)) m.toNat) := ⟨rfl, am6, fun l l0 l1 z => e4 l l0 l1 z⟩
    have w0 := (cnt_r (Q := ib (zandn C Fm)) m.toNat).1
    generalize hwc : cnt (ib (zandn C Fm)) m.toNat = wc at *
    have zw : 0 < zbit wc ∧ zbit wc ≤ 64 := by
      have p1 : 0 < 2 ^ wc.toNat := Nat.pow_pos (by decide)
      have p2 : 2 ^ wc.toNat ≤ 2 ^ 6 := Nat.pow_le_pow_right (by omega) (by omega)
      have p3 : zbit wc = ((2 ^ wc.toNat : Nat) : Int) := rfl
      omega
    have fr3 : Fr b (b + 10) h h3 := fr2.trans (e2.fr (fun a z => by unfold XW at z; omega) (fun a k z => by unfold YW at z; omega))
    have hW3 := hW2.frG e2 (fun a _ _ => by unfold XW; omega) (fun a k _ _ => by unfold YW; omega)
    have G3 : GapC h3 (b + 1) D := c3.frG e2 (by unfold XW; omega)
    have s3d : SA h3 s st := hsd.fr fr3 (by omega)
    have key : ∀ n : Nat, (n : Int) ≤ zbit wc → ∀ h4, Lay h4 → FrG (XT b) (YT b) h3 h4 → axI W m F Wd T S st (fun Y => ∃ ch, (n : Int) ≤ ch ∧ ch < zbit wc ∧ Y = yOf m (zandn C Fm) ch) h4 b → ((n : Int) = 0 → ¬ gf h4 b 8 = -1) → R (d + 4) 0 0 4 56 [.ref b, .ref bb, .int (I C), .int (I S), .ref s, .int (I Fm), .int (I ((n : Int) - 1))] [] h4 post := by
      intro n
      induction n with
      | zero =>
        intro hn h4 g1 g2 g3 g4
        rw [e4_56]
        simp (disch := (first | assumption | omega | exact zor_0 | exact zand_0 | exact zandn_0 | exact zbit_0 | exact zxor_0 | exact (bz_01 _).1 | (repeat (first | assumption | refine Lay.sF ?_ rfl | refine Lay.sA ?_ (by decide) | refine Lay.iall ?_ (by decide) | refine Lay.sL ?_ | refine Lay.sFL ?_ (by decide))))) only [e4_0, e4_1, e4_2, e4_5, e4_7, e4_8, e4_11, e4_12, e4_15, e4_16, e4_19, e4_20, e4_22, e4_25, e4_28, e4_29, e4_30, e4_31, e4_32, e4_33, e4_35, e4_36, e4_37, e4_38, e4_41, e4_42, e4_43, e4_46, e4_47, e4_48, e4_51, e4_52, e4_53, e4_54, e4_58, e4_61, e4_62, e4_63, e4_65, e4_67, e4_70, e4_73, e4_76, e4_77, ne_eq, not_false_eq_true, true_and, and_true, reduceCtorEq, Nat.reduceEqDiff, Nat.reduceAdd, Nat.reduceSub, Nat.reduceLeDiff, Nat.reduceLT, Int.reduceEq, Int.reduceLT, Int.reduceLE, Int.reduceNeg, Int.reduceAdd, Int.reduceSub, Int.reduceMul, Int.reduceToNat, Int.cast_ofNat_Int, Int.natCast_zero, Nat.le_refl, Nat.zero_le, if_true, if_false, ite_true, ite_false, and_self, and_false, false_and, or_true, true_or, or_false, false_or, not_true_eq_false, Classical.not_not, not_or, Int.not_lt, Int.not_le, a_clr, Option.toList_some, Option.toList_none, List.cons_append, List.nil_append, a_cw, List.map_cons, List.map_nil, List.sum_cons, List.sum_nil, Value.category, nar_b0, nar_b1, sh_sa, sh_sf, sh_sl, sh_sfl, a_sh_iall, a_fv_iall, fv_sa, fv_sl, fv_sf_eq, fv_sf_ne, fv_sfl_eq, fv_sfl_ne, ga_sf, ga_sl, ga_sfl, ga_sa_ne, ga_sa, ga_iall_ne, gf_sa, gf_iall, gf_sl, gf_sfl, gf_sf_ne, gf_sf_eq, gl_sa, gl_iall, gl_sf, gl_sl_ne, gl_sl, gfl_sa, gfl_iall, gfl_sl, gfl_sf, gfl_sfl_ne, gfl_sfl_eq, ld_a, ld_0, ld_1, ld_2, st_a, st_0, st_f, ld_l, st_l, st_fl, sa_sa, sf_sf, sfl_sfl, k_max, k_far, k_no, zadd, zsub, zmul, zneg, zmax, zmin, zabs, zltI, zleI, zeqI, zlt0I, zle0I, z0ltI, z0leI, zeq0I, ti_ga, ti_gf, ti_bz, ztoInt, zinT, zix, bz_eq0, bz_eq1, bz_e0, bz_e1, bz_eqb, bz_or1, bz_True, bz_False, zor_i, zand_i, zxor_i, zandn_i, zandn_i2, zbit_i, ib_i, nB0, nB1, nBz, fk_T, fk_F, fk_pos, fk_neg, fk_same, fk_not, fk_and, fk_andn, fk_nand, fk_or, fkP10, fkP01, fkP0z, fkPz0, fkP1z, fkPz1]
        rcases g3 with z | ⟨z1, w, z2, z3⟩
        · exact absurd z.1 (g4 rfl)
        · refine kT h4 w g1 (fr3.trans (g2.fr (fun a z => by unfold XT at z; omega) (fun a k z => by unfold YT at z; omega))) (opt_sub z2 (fun x y z k => ?_) (cand_mono (fun _ _ => trivial) z2.1)) z1 z3
          obtain ⟨Y, _, k2, k3⟩ := k
          obtain ⟨ch, j0, j1, j2⟩ := yOf_sur q hm.1 hd2 k2
          exact ⟨Y, ⟨ch, j0, j1, j2⟩, k2, k3⟩
      | succ n ih =>
        intro hn h4 g1 g2 g3 g4
        have ih := ih (by omega)
        rw [show ((n + 1 : Nat) : Int) - 1 = (n : Int) by omega, e4_56]
        simp (disch := (first | assumption | omega | exact zor_0 | exact zand_0 | exact zandn_0 | exact zbit_0 | exact zxor_0 | exact (bz_01 _).1 | (repeat (first | assumption | refine Lay.sF ?_ rfl | refine Lay.sA ?_ (by decide) | refine Lay.iall ?_ (by decide) | refine Lay.sL ?_ | refine Lay.sFL ?_ (by decide))))) only [e4_0, e4_1, e4_2, e4_5, e4_7, e4_8, e4_11, e4_12, e4_15, e4_16, e4_19, e4_20, e4_22, e4_25, e4_28, e4_29, e4_30, e4_31, e4_32, e4_33, e4_35, e4_36, e4_37, e4_38, e4_41, e4_42, e4_43, e4_46, e4_47, e4_48, e4_51, e4_52, e4_53, e4_54, e4_58, e4_61, e4_62, e4_63, e4_65, e4_67, e4_70, e4_73, e4_76, e4_77, ne_eq, not_false_eq_true, true_and, and_true, reduceCtorEq, Nat.reduceEqDiff, Nat.reduceAdd, Nat.reduceSub, Nat.reduceLeDiff, Nat.reduceLT, Int.reduceEq, Int.reduceLT, Int.reduceLE, Int.reduceNeg, Int.reduceAdd, Int.reduceSub, Int.reduceMul, Int.reduceToNat, Int.cast_ofNat_Int, Int.natCast_zero, Nat.le_refl, Nat.zero_le, if_true, if_false, ite_true, ite_false, and_self, and_false, false_and, or_true, true_or, or_false, false_or, not_true_eq_false, Classical.not_not, not_or, Int.not_lt, Int.not_le, a_clr, Option.toList_some, Option.toList_none, List.cons_append, List.nil_append, a_cw, List.map_cons, List.map_nil, List.sum_cons, List.sum_nil, Value.category, nar_b0, nar_b1, sh_sa, sh_sf, sh_sl, sh_sfl, a_sh_iall, a_fv_iall, fv_sa, fv_sl, fv_sf_eq, fv_sf_ne, fv_sfl_eq, fv_sfl_ne, ga_sf, ga_sl, ga_sfl, ga_sa_ne, ga_sa, ga_iall_ne, gf_sa, gf_iall, gf_sl, gf_sfl, gf_sf_ne, gf_sf_eq, gl_sa, gl_iall, gl_sf, gl_sl_ne, gl_sl, gfl_sa, gfl_iall, gfl_sl, gfl_sf, gfl_sfl_ne, gfl_sfl_eq, ld_a, ld_0, ld_1, ld_2, st_a, st_0, st_f, ld_l, st_l, st_fl, sa_sa, sf_sf, sfl_sfl, k_max, k_far, k_no, zadd, zsub, zmul, zneg, zmax, zmin, zabs, zltI, zleI, zeqI, zlt0I, zle0I, z0ltI, z0leI, zeq0I, ti_ga, ti_gf, ti_bz, ztoInt, zinT, zix, bz_eq0, bz_eq1, bz_e0, bz_e1, bz_eqb, bz_or1, bz_True, bz_False, zor_i, zand_i, zxor_i, zandn_i, zandn_i2, zbit_i, ib_i, nB0, nB1, nBz, fk_T, fk_F, fk_pos, fk_neg, fk_same, fk_not, fk_and, fk_andn, fk_nand, fk_or, fkP10, fkP01, fkP0z, fkPz0, fkP1z, fkPz1, (layAxis g1 hb).1, (layLaws g1 hbb).1, b3, bb3, s3]
        refine c_Axis_tryWishes g1 hb (hW3.frG g2 (fun a _ _ => by unfold XT; omega) (fun a k _ _ => by unfold YT; omega)) hO hS c4 (G3.frG g2 (by unfold XT; omega)) hD ((g2.fg (by unfold XT; omega) (by unfold YT; omega)).trans e3) q (fun j j0 j1 => g2.ag (by unfold XT; omega)) hd2 (sL h4 g1) hs2 (fun p hp => (g2.ag (by unfold XT; omega)).trans (s3d p hp)) hr2 (ch := (n : Int)) (by omega) g3 (P' := fun Y => ∃ ch, (n : Int) ≤ ch ∧ ch < zbit wc ∧ Y = yOf m (zandn C Fm) ch) ⟨n, by omega, by omega, rfl⟩ (fun Y ⟨ch, j0, j1, j2⟩ => ⟨ch, by omega, j1, j2⟩) (fun Y ⟨ch, j0, j1, j2⟩ => ?_) (fun h5 k1 k2 k3 k4 => ?_)
        · by_cases z : ch = n
          · exact Or.inr (by rw [j2, z])
          · exact Or.inl ⟨ch, by omega, j1, j2⟩
        · simp (disch := (first | assumption | omega | exact zor_0 | exact zand_0 | exact zandn_0 | exact zbit_0 | exact zxor_0 | exact (bz_01 _).1 | (repeat (first | assumption | refine Lay.sF ?_ rfl | refine Lay.sA ?_ (by decide) | refine Lay.iall ?_ (by decide) | refine Lay.sL ?_ | refine Lay.sFL ?_ (by decide))))) only [e4_0, e4_1, e4_2, e4_5, e4_7, e4_8, e4_11, e4_12, e4_15, e4_16, e4_19, e4_20, e4_22, e4_25, e4_28, e4_29, e4_30, e4_31, e4_32, e4_33, e4_35, e4_36, e4_37, e4_38, e4_41, e4_42, e4_43, e4_46, e4_47, e4_48, e4_51, e4_52, e4_53, e4_54, e4_58, e4_61, e4_62, e4_63, e4_65, e4_67, e4_70, e4_73, e4_76, e4_77, ne_eq, not_false_eq_true, true_and, and_true, reduceCtorEq, Nat.reduceEqDiff, Nat.reduceAdd, Nat.reduceSub, Nat.reduceLeDiff, Nat.reduceLT, Int.reduceEq, Int.reduceLT, Int.reduceLE, Int.reduceNeg, Int.reduceAdd, Int.reduceSub, Int.reduceMul, Int.reduceToNat, Int.cast_ofNat_Int, Int.natCast_zero, Nat.le_refl, Nat.zero_le, if_true, if_false, ite_true, ite_false, and_self, and_false, false_and, or_true, true_or, or_false, false_or, not_true_eq_false, Classical.not_not, not_or, Int.not_lt, Int.not_le, a_clr, Option.toList_some, Option.toList_none, List.cons_append, List.nil_append, a_cw, List.map_cons, List.map_nil, List.sum_cons, List.sum_nil, Value.category, nar_b0, nar_b1, sh_sa, sh_sf, sh_sl, sh_sfl, a_sh_iall, a_fv_iall, fv_sa, fv_sl, fv_sf_eq, fv_sf_ne, fv_sfl_eq, fv_sfl_ne, ga_sf, ga_sl, ga_sfl, ga_sa_ne, ga_sa, ga_iall_ne, gf_sa, gf_iall, gf_sl, gf_sfl, gf_sf_ne, gf_sf_eq, gl_sa, gl_iall, gl_sf, gl_sl_ne, gl_sl, gfl_sa, gfl_iall, gfl_sl, gfl_sf, gfl_sfl_ne, gfl_sfl_eq, ld_a, ld_0, ld_1, ld_2, st_a, st_0, st_f, ld_l, st_l, st_fl, sa_sa, sf_sf, sfl_sfl, k_max, k_far, k_no, zadd, zsub, zmul, zneg, zmax, zmin, zabs, zltI, zleI, zeqI, zlt0I, zle0I, z0ltI, z0leI, zeq0I, ti_ga, ti_gf, ti_bz, ztoInt, zinT, zix, bz_eq0, bz_eq1, bz_e0, bz_e1, bz_eqb, bz_or1, bz_True, bz_False, zor_i, zand_i, zxor_i, zandn_i, zandn_i2, zbit_i, ib_i, nB0, nB1, nBz, fk_T, fk_F, fk_pos, fk_neg, fk_same, fk_not, fk_and, fk_andn, fk_nand, fk_or, fkP10, fkP01, fkP0z, fkPz0, fkP1z, fkPz1]
          refine ih h5 k1 (g2.trans k2) k3 (fun z => k4 v0 ⟨hv0.1, ?_⟩)
          refine (hold_iff q hm.1 hd2).mp ⟨hv0.2, fun j j0 j1 hj => ?_⟩
          rw [z, ib_0] at hj
          exact hj.elim
    simp (disch := (first | assumption | omega | exact zor_0 | exact zand_0 | exact zandn_0 | exact zbit_0 | exact zxor_0 | exact (bz_01 _).1 | (repeat (first | assumption | refine Lay.sF ?_ rfl | refine Lay.sA ?_ (by decide) | refine Lay.iall ?_ (by decide) | refine Lay.sL ?_ | refine Lay.sFL ?_ (by decide))))) only [e4_0, e4_1, e4_2, e4_5, e4_7, e4_8, e4_11, e4_12, e4_15, e4_16, e4_19, e4_20, e4_22, e4_25, e4_28, e4_29, e4_30, e4_31, e4_32, e4_33, e4_35, e4_36, e4_37, e4_38, e4_41, e4_42, e4_43, e4_46, e4_47, e4_48, e4_51, e4_52, e4_53, e4_54, e4_58, e4_61, e4_62, e4_63, e4_65, e4_67, e4_70, e4_73, e4_76, e4_77, ne_eq, not_false_eq_true, true_and, and_true, reduceCtorEq, Nat.reduceEqDiff, Nat.reduceAdd, Nat.reduceSub, Nat.reduceLeDiff, Nat.reduceLT, Int.reduceEq, Int.reduceLT, Int.reduceLE, Int.reduceNeg, Int.reduceAdd, Int.reduceSub, Int.reduceMul, Int.reduceToNat, Int.cast_ofNat_Int, Int.natCast_zero, Nat.le_refl, Nat.zero_le, if_true, if_false, ite_true, ite_false, and_self, and_false, false_and, or_true, true_or, or_false, false_or, not_true_eq_false, Classical.not_not, not_or, Int.not_lt, Int.not_le, a_clr, Option.toList_some, Option.toList_none, List.cons_append, List.nil_append, a_cw, List.map_cons, List.map_nil, List.sum_cons, List.sum_nil, Value.category, nar_b0, nar_b1, sh_sa, sh_sf, sh_sl, sh_sfl, a_sh_iall, a_fv_iall, fv_sa, fv_sl, fv_sf_eq, fv_sf_ne, fv_sfl_eq, fv_sfl_ne, ga_sf, ga_sl, ga_sfl, ga_sa_ne, ga_sa, ga_iall_ne, gf_sa, gf_iall, gf_sl, gf_sfl, gf_sf_ne, gf_sf_eq, gl_sa, gl_iall, gl_sf, gl_sl_ne, gl_sl, gfl_sa, gfl_iall, gfl_sl, gfl_sf, gfl_sfl_ne, gfl_sfl_eq, ld_a, ld_0, ld_1, ld_2, st_a, st_0, st_f, ld_l, st_l, st_fl, sa_sa, sf_sf, sfl_sfl, k_max, k_far, k_no, zadd, zsub, zmul, zneg, zmax, zmin, zabs, zltI, zleI, zeqI, zlt0I, zle0I, z0ltI, z0leI, zeq0I, ti_ga, ti_gf, ti_bz, ztoInt, zinT, zix, bz_eq0, bz_eq1, bz_e0, bz_e1, bz_eqb, bz_or1, bz_True, bz_False, zor_i, zand_i, zxor_i, zandn_i, zandn_i2, zbit_i, ib_i, nB0, nB1, nBz, fk_T, fk_F, fk_pos, fk_neg, fk_same, fk_not, fk_and, fk_andn, fk_nand, fk_or, fkP10, fkP01, fkP0z, fkPz0, fkP1z, fkPz1, layAxis e1 hb, b3, e3]
    have kz := key (zbit wc).toNat (by omega) (sf h3 b 8 (-1)) (e1.sF i8) (FrG.id.sF (Or.inr (by unfold YT; omega))) (Or.inl ⟨by rw [gf_sf_eq (by omega) (by omega)], fun x y z k => ?_⟩) (fun z => by omega)
    · rw [show (((zbit wc).toNat : Nat) : Int) = zbit wc by omega] at kz
      exact kz
    · obtain ⟨Y, ⟨ch, j0, j1, j2⟩, _⟩ := k
      omega
end STW
