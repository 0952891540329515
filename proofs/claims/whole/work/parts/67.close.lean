/-! Laws: empty, open, close -/
def lawF (wd a b g wt wh : Int) (w : Nat) : Int := if w = 0 then wd else if w = 1 then a else if w = 2 then b else if w = 3 then g else if w = 4 then wt else wh
def updW (W : Nat → Int → Int) (i : Int) (f : Nat → Int) : Nat → Int → Int := fun w j => if j = i then f w else W w j
section CLS
variable {d : Nat} {h : aH} {post : Option Value → aH → Prop} {b : Nat} {W : Nat → Int → Int} {i : Int}
theorem Lay.sFb {k : Nat} {z : Int} (hL : Lay h) (hb : b = 59 ∨ b = 66) (hk : k = 6 ∨ k = 7 ∨ k = 8 ∨ k = 9) : Lay (sf h b k z) := hL.sF (by rcases hb with rfl | rfl <;> rcases hk with rfl | rfl | rfl | rfl <;> rfl)
theorem q_Laws_empty (hL : Lay h) (hb : b = 59 ∨ b = 66) : R d 0 0 34 0 [.ref b] [] h post = post none (sf (sf (sf (sf h b 6 0) b 7 0) b 8 0) b 9 0) := by
  have hb3 : ¬ b = 1003 := by omega
  simp (disch := (first | assumption | omega | exact zor_0 | exact zand_0 | exact zandn_0 | exact zbit_0 | exact zxor_0 | exact (bz_01 _).1 | (repeat (first | assumption | refine Lay.sF ?_ rfl | refine Lay.sA ?_ (by decide) | refine Lay.iall ?_ (by decide) | refine Lay.sL ?_ | refine Lay.sFL ?_ (by decide))))) only [e34_0, e34_1, e34_2, e34_5, e34_6, e34_7, e34_10, e34_11, e34_12, e34_15, e34_16, e34_17, e34_20, ne_eq, not_false_eq_true, true_and, and_true, reduceCtorEq, Nat.reduceEqDiff, Nat.reduceAdd, Nat.reduceSub, Nat.reduceLeDiff, Nat.reduceLT, Int.reduceEq, Int.reduceLT, Int.reduceLE, Int.reduceNeg, Int.reduceAdd, Int.reduceSub, Int.reduceMul, Int.reduceToNat, Int.cast_ofNat_Int, Int.natCast_zero, Nat.le_refl, Nat.zero_le, if_true, if_false, ite_true, ite_false, and_self, and_false, false_and, or_true, true_or, or_false, false_or, not_true_eq_false, Classical.not_not, not_or, Int.not_lt, Int.not_le, a_clr, Option.toList_some, Option.toList_none, List.cons_append, List.nil_append, a_cw, List.map_cons, List.map_nil, List.sum_cons, List.sum_nil, Value.category, nar_b0, nar_b1, sh_sa, sh_sf, sh_sl, sh_sfl, a_sh_iall, a_fv_iall, fv_sa, fv_sl, fv_sf_eq, fv_sf_ne, fv_sfl_eq, fv_sfl_ne, ga_sf, ga_sl, ga_sfl, ga_sa_ne, ga_sa, ga_iall_ne, gf_sa, gf_iall, gf_sl, gf_sfl, gf_sf_ne, gf_sf_eq, gl_sa, gl_iall, gl_sf, gl_sl_ne, gl_sl, gfl_sa, gfl_iall, gfl_sl, gfl_sf, gfl_sfl_ne, gfl_sfl_eq, ld_a, ld_0, ld_1, ld_2, st_a, st_0, st_f, ld_l, st_l, st_fl, sa_sa, sf_sf, sfl_sfl, k_max, k_far, k_no, zadd, zsub, zmul, zneg, zmax, zmin, zabs, zltI, zleI, zeqI, zlt0I, zle0I, z0ltI, z0leI, zeq0I, ti_ga, ti_gf, ti_bz, ztoInt, zinT, zix, bz_eq0, bz_eq1, bz_e0, bz_e1, bz_eqb, bz_or1, bz_True, bz_False, zor_i, zand_i, zxor_i, zandn_i, zandn_i2, zbit_i, ib_i, nB0, nB1, nBz, fk_T, fk_F, fk_pos, fk_neg, fk_same, fk_not, fk_and, fk_andn, fk_nand, fk_or, fkP10, fkP01, fkP0z, fkPz0, fkP1z, fkPz1, layLaws hL hb, hb3]
theorem q_Laws_open (hL : Lay h) (hb : b = 59 ∨ b = 66) (hi : gf h b 9 = i) (h0 : 0 ≤ i ∧ i < 12) {wt wh wd : Int} : R d 0 0 35 0 [.ref b, .int (I wt), .int (I wh), .int (I wd)] [] h post = post none (sa (sa (sa h (b + 5) i wt) (b + 6) i wh) (b + 1) i wd) := by
  have hb3 : ¬ b = 1003 := by omega
  simp (disch := (first | assumption | omega | exact zor_0 | exact zand_0 | exact zandn_0 | exact zbit_0 | exact zxor_0 | exact (bz_01 _).1 | (repeat (first | assumption | refine Lay.sF ?_ rfl | refine Lay.sA ?_ (by decide) | refine Lay.iall ?_ (by decide) | refine Lay.sL ?_ | refine Lay.sFL ?_ (by decide))))) only [e35_0, e35_1, e35_4, e35_5, e35_8, e35_9, e35_10, e35_11, e35_14, e35_15, e35_18, e35_19, e35_20, e35_21, e35_24, e35_25, e35_28, e35_29, e35_30, ne_eq, not_false_eq_true, true_and, and_true, reduceCtorEq, Nat.reduceEqDiff, Nat.reduceAdd, Nat.reduceSub, Nat.reduceLeDiff, Nat.reduceLT, Int.reduceEq, Int.reduceLT, Int.reduceLE, Int.reduceNeg, Int.reduceAdd, Int.reduceSub, Int.reduceMul, Int.reduceToNat, Int.cast_ofNat_Int, Int.natCast_zero, Nat.le_refl, Nat.zero_le, if_true, if_false, ite_true, ite_false, and_self, and_false, false_and, or_true, true_or, or_false, false_or, not_true_eq_false, Classical.not_not, not_or, Int.not_lt, Int.not_le, a_clr, Option.toList_some, Option.toList_none, List.cons_append, List.nil_append, a_cw, List.map_cons, List.map_nil, List.sum_cons, List.sum_nil, Value.category, nar_b0, nar_b1, sh_sa, sh_sf, sh_sl, sh_sfl, a_sh_iall, a_fv_iall, fv_sa, fv_sl, fv_sf_eq, fv_sf_ne, fv_sfl_eq, fv_sfl_ne, ga_sf, ga_sl, ga_sfl, ga_sa_ne, ga_sa, ga_iall_ne, gf_sa, gf_iall, gf_sl, gf_sfl, gf_sf_ne, gf_sf_eq, gl_sa, gl_iall, gl_sf, gl_sl_ne, gl_sl, gfl_sa, gfl_iall, gfl_sl, gfl_sf, gfl_sfl_ne, gfl_sfl_eq, ld_a, ld_0, ld_1, ld_2, st_a, st_0, st_f, ld_l, st_l, st_fl, sa_sa, sf_sf, sfl_sfl, k_max, k_far, k_no, zadd, zsub, zmul, zneg, zmax, zmin, zabs, zltI, zleI, zeqI, zlt0I, zle0I, z0ltI, z0leI, zeq0I, ti_ga, ti_gf, ti_bz, ztoInt, zinT, zix, bz_eq0, bz_eq1, bz_e0, bz_e1, bz_eqb, bz_or1, bz_True, bz_False, zor_i, zand_i, zxor_i, zandn_i, zandn_i2, zbit_i, ib_i, nB0, nB1, nBz, fk_T, fk_F, fk_pos, fk_neg, fk_same, fk_not, fk_and, fk_andn, fk_nand, fk_or, fkP10, fkP01, fkP0z, fkPz0, fkP1z, fkPz1, layLaws hL hb, hb3, hi]
theorem q_Laws_axis0 (hL : Lay h) (hb : b = 59 ∨ b = 66) (hi : 0 ≤ i ∧ i < 12) {wd : Int} (e : ga h (b + 1) i = wd) (hw : 0 ≤ wd ∧ wd ≤ 5) : R d 0 0 42 0 [.ref b, .int (I i)] [] h post = post (some (.int (I (bz (tal wd))))) h := by
  have hb3 : ¬ b = 1003 := by omega
  simp (disch := (first | assumption | omega | exact zor_0 | exact zand_0 | exact zandn_0 | exact zbit_0 | exact zxor_0 | exact (bz_01 _).1 | (repeat (first | assumption | refine Lay.sF ?_ rfl | refine Lay.sA ?_ (by decide) | refine Lay.iall ?_ (by decide) | refine Lay.sL ?_ | refine Lay.sFL ?_ (by decide))))) only [e42_0, e42_3, e42_4, e42_7, e42_8, e42_9, e42_10, ne_eq, not_false_eq_true, true_and, and_true, reduceCtorEq, Nat.reduceEqDiff, Nat.reduceAdd, Nat.reduceSub, Nat.reduceLeDiff, Nat.reduceLT, Int.reduceEq, Int.reduceLT, Int.reduceLE, Int.reduceNeg, Int.reduceAdd, Int.reduceSub, Int.reduceMul, Int.reduceToNat, Int.cast_ofNat_Int, Int.natCast_zero, Nat.le_refl, Nat.zero_le, if_true, if_false, ite_true, ite_false, and_self, and_false, false_and, or_true, true_or, or_false, false_or, not_true_eq_false, Classical.not_not, not_or, Int.not_lt, Int.not_le, a_clr, Option.toList_some, Option.toList_none, List.cons_append, List.nil_append, a_cw, List.map_cons, List.map_nil, List.sum_cons, List.sum_nil, Value.category, nar_b0, nar_b1, sh_sa, sh_sf, sh_sl, sh_sfl, a_sh_iall, a_fv_iall, fv_sa, fv_sl, fv_sf_eq, fv_sf_ne, fv_sfl_eq, fv_sfl_ne, ga_sf, ga_sl, ga_sfl, ga_sa_ne, ga_sa, ga_iall_ne, gf_sa, gf_iall, gf_sl, gf_sfl, gf_sf_ne, gf_sf_eq, gl_sa, gl_iall, gl_sf, gl_sl_ne, gl_sl, gfl_sa, gfl_iall, gfl_sl, gfl_sf, gfl_sfl_ne, gfl_sfl_eq, ld_a, ld_0, ld_1, ld_2, st_a, st_0, st_f, ld_l, st_l, st_fl, sa_sa, sf_sf, sfl_sfl, k_max, k_far, k_no, zadd, zsub, zmul, zneg, zmax, zmin, zabs, zltI, zleI, zeqI, zlt0I, zle0I, z0ltI, z0leI, zeq0I, ti_ga, ti_gf, ti_bz, ztoInt, zinT, zix, bz_eq0, bz_eq1, bz_e0, bz_e1, bz_eqb, bz_or1, bz_True, bz_False, zor_i, zand_i, zxor_i, zandn_i, zandn_i2, zbit_i, ib_i, nB0, nB1, nBz, fk_T, fk_F, fk_pos, fk_neg, fk_same, fk_not, fk_and, fk_andn, fk_nand, fk_or, fkP10, fkP01, fkP0z, fkPz0, fkP1z, fkPz1, layLaws hL hb, layOut hL, e, axis_ga hL, hb3]
theorem q_Laws_isStiff0 (hL : Lay h) (hb : b = 59 ∨ b = 66) (hi : 0 ≤ i ∧ i < 12) {wd : Int} (e : ga h (b + 1) i = wd) (hw : 0 ≤ wd ∧ wd ≤ 5) : R d 0 0 43 0 [.ref b, .int (I i)] [] h post = post (some (.int (I (bz (stf wd))))) h := by
  have hb3 : ¬ b = 1003 := by omega
  simp (disch := (first | assumption | omega | exact zor_0 | exact zand_0 | exact zandn_0 | exact zbit_0 | exact zxor_0 | exact (bz_01 _).1 | (repeat (first | assumption | refine Lay.sF ?_ rfl | refine Lay.sA ?_ (by decide) | refine Lay.iall ?_ (by decide) | refine Lay.sL ?_ | refine Lay.sFL ?_ (by decide))))) only [e43_0, e43_3, e43_4, e43_7, e43_8, e43_9, e43_10, e43_11, e43_14, e43_15, e43_18, e43_19, ne_eq, not_false_eq_true, true_and, and_true, reduceCtorEq, Nat.reduceEqDiff, Nat.reduceAdd, Nat.reduceSub, Nat.reduceLeDiff, Nat.reduceLT, Int.reduceEq, Int.reduceLT, Int.reduceLE, Int.reduceNeg, Int.reduceAdd, Int.reduceSub, Int.reduceMul, Int.reduceToNat, Int.cast_ofNat_Int, Int.natCast_zero, Nat.le_refl, Nat.zero_le, if_true, if_false, ite_true, ite_false, and_self, and_false, false_and, or_true, true_or, or_false, false_or, not_true_eq_false, Classical.not_not, not_or, Int.not_lt, Int.not_le, a_clr, Option.toList_some, Option.toList_none, List.cons_append, List.nil_append, a_cw, List.map_cons, List.map_nil, List.sum_cons, List.sum_nil, Value.category, nar_b0, nar_b1, sh_sa, sh_sf, sh_sl, sh_sfl, a_sh_iall, a_fv_iall, fv_sa, fv_sl, fv_sf_eq, fv_sf_ne, fv_sfl_eq, fv_sfl_ne, ga_sf, ga_sl, ga_sfl, ga_sa_ne, ga_sa, ga_iall_ne, gf_sa, gf_iall, gf_sl, gf_sfl, gf_sf_ne, gf_sf_eq, gl_sa, gl_iall, gl_sf, gl_sl_ne, gl_sl, gfl_sa, gfl_iall, gfl_sl, gfl_sf, gfl_sfl_ne, gfl_sfl_eq, ld_a, ld_0, ld_1, ld_2, st_a, st_0, st_f, ld_l, st_l, st_fl, sa_sa, sf_sf, sfl_sfl, k_max, k_far, k_no, zadd, zsub, zmul, zneg, zmax, zmin, zabs, zltI, zleI, zeqI, zlt0I, zle0I, z0ltI, z0leI, zeq0I, ti_ga, ti_gf, ti_bz, ztoInt, zinT, zix, bz_eq0, bz_eq1, bz_e0, bz_e1, bz_eqb, bz_or1, bz_True, bz_False, zor_i, zand_i, zxor_i, zandn_i, zandn_i2, zbit_i, ib_i, nB0, nB1, nBz, fk_T, fk_F, fk_pos, fk_neg, fk_same, fk_not, fk_and, fk_andn, fk_nand, fk_or, fkP10, fkP01, fkP0z, fkPz0, fkP1z, fkPz1, layLaws hL hb, layOut hL, e, stiff_ga hL, hb3]
theorem bset_upd {P : Int → Prop} {n : Nat} : bset P (n + 1) = zor (bset P n) (cif (P n) (zbit n) 0) := by
  simp only [bset]
  by_cases e : P n
  · rw [cif_pos e, cif_pos e]
  · rw [cif_neg e, cif_neg e, zor_z (bset_0 n)]
theorem fk_post {c : Prop} {x y : Int} {F : Int → Prop} : fk c (F x) (F y) = F (cif c x y) := fk_cif F
theorem c_Laws_close (hL : Lay h) (hW : LwC h b i W) (h0 : 0 ≤ i ∧ i < 12) {wt wh wd x y g : Int} (e1 : ga h (b + 1) i = wd) (e5 : ga h (b + 5) i = wt) (e6 : ga h (b + 6) i = wh) (hw : 0 ≤ wd ∧ wd ≤ 5) (hx : 0 ≤ x ∧ x ≤ 5) (hy : 0 ≤ y ∧ y ≤ 5) (hg : 0 ≤ g ∧ g ≤ 19) (hwt : 0 ≤ wt ∧ wt ≤ 9) (kk : ∀ h', Lay h' → Fr b (b + 7) h h' → LwC h' b (i + 1) (updW W i (lawF wd x y g wt wh)) → post none h') : R (d + 1) 0 0 36 0 [.ref b, .int (I x), .int (I y), .int (I g)] [] h post := by
  have hb := hW.1
  have hb3 : ¬ b = 1003 := by omega
  have hi : gf h b 9 = i := hW.n
  have s6 := hW.s6
  have s7 := hW.s7
  have s8 := hW.s8
  have b6 := bset_lt12 (m := i) (P := fun i => W 4 i = 0) (by omega)
  have b7 := bset_lt12 (m := i) (P := fun i => stf (W 0 i)) (by omega)
  have b8 := bset_lt12 (m := i) (P := fun i => ¬ tal (W 0 i)) (by omega)
  have zb : zbit i < 4096 := zbit_lt (n := 12) h0.1 (by omega)
  have zb0 : 0 ≤ zbit i := zbit_0
  have fin : ∀ h', Lay h' → Fr b (b + 7) h h' → gf h' b 9 = i + 1 → (∀ j, 0 ≤ j → ga h' (b + 1) j = ga h (b + 1) j ∧ ga h' (b + 5) j = ga h (b + 5) j ∧ ga h' (b + 6) j = ga h (b + 6) j ∧ ga h' (b + 2) j = (if j = i then x else ga h (b + 2) j) ∧ ga h' (b + 3) j = (if j = i then y else ga h (b + 3) j) ∧ ga h' (b + 4) j = (if j = i then g else ga h (b + 4) j)) → gf h' b 6 = zor (gf h b 6) (cif (wt = 0) (zbit i) 0) → gf h' b 7 = zor (gf h b 7) (cif (stf wd) (zbit i) 0) → gf h' b 8 = zor (gf h b 8) (cif (¬ tal wd) (zbit i) 0) → post none h' := by
    intro h' hL' hF' f9 hA f6 f7 f8
    have ei : (i + 1).toNat = i.toNat + 1 := by omega
    have eI : ((i.toNat : Nat) : Int) = i := by omega
    refine kk h' hL' hF' ⟨hb, f9, fun j j0 j1 => ?_, ?_, ?_, ?_⟩
    · have a := hA j j0
      by_cases c : j = i
      · subst c
        simp only [updW, if_true] at a ⊢
        rw [a.1, a.2.1, a.2.2.1, a.2.2.2.1, a.2.2.2.2.1, a.2.2.2.2.2, e1, e5, e6]
        simp [lawF]
      · have w := hW.2.2.1 j j0 (by omega)
        simp only [updW, if_neg c] at a ⊢
        rw [a.1, a.2.1, a.2.2.1, a.2.2.2.1, a.2.2.2.2.1, a.2.2.2.2.2]
        exact w
    · rw [f6, s6, ei, bset_upd, eI]
      have : bset (fun j => updW W i (lawF wd x y g wt wh) 4 j = 0) i.toNat = bset (fun j => W 4 j = 0) i.toNat := bset_congr (fun p _ h1 => by simp only [updW]; rw [if_neg (by omega)])
      rw [this]
      simp [updW, lawF]
    · rw [f7, s7, ei, bset_upd, eI]
      have : bset (fun j => stf (updW W i (lawF wd x y g wt wh) 0 j)) i.toNat = bset (fun j => stf (W 0 j)) i.toNat := bset_congr (fun p _ h1 => by simp only [updW]; rw [if_neg (by omega)])
      rw [this]
      simp [updW, lawF]
    · rw [f8, s8, ei, bset_upd, eI]
      have : bset (fun j => ¬ tal (updW W i (lawF wd x y g wt wh) 0 j)) i.toNat = bset (fun j => ¬ tal (W 0 j)) i.toNat := bset_congr (fun p _ h1 => by simp only [updW]; rw [if_neg (by omega)])
      rw [this]
      simp [updW, lawF]
  have qs : ∀ (z : Int) (post : Option Value → aH → Prop), R d 0 0 43 0 [.ref b, .int (I i)] [] (sf (sa (sa (sa h (b + 2) i x) (b + 3) i y) (b + 4) i g) b 6 z) post = post (some (.int (I (bz (stf wd))))) (sf (sa (sa (sa h (b + 2) i x) (b + 3) i y) (b + 4) i g) b 6 z) := fun z post => q_Laws_isStiff0 ((((hL.sA (by omega)).sA (by omega)).sA (by omega)).sFb hb (by decide)) hb h0 (by simp (disch := omega) only [ga_sf, ga_sa_ne]; exact e1) hw
  have qa : ∀ (z z2 : Int) (post : Option Value → aH → Prop), R d 0 0 42 0 [.ref b, .int (I i)] [] (sf (sf (sa (sa (sa h (b + 2) i x) (b + 3) i y) (b + 4) i g) b 6 z) b 7 z2) post = post (some (.int (I (bz (tal wd))))) (sf (sf (sa (sa (sa h (b + 2) i x) (b + 3) i y) (b + 4) i g) b 6 z) b 7 z2) := fun z z2 post => q_Laws_axis0 (((((hL.sA (by omega)).sA (by omega)).sA (by omega)).sFb hb (by decide)).sFb hb (by decide)) hb h0 (by simp (disch := omega) only [ga_sf, ga_sa_ne]; exact e1) hw
  have g6 : 0 ≤ gf h b 6 ∧ gf h b 6 < 4096 := by rw [s6]; exact b6
  have g7 : 0 ≤ gf h b 7 ∧ gf h b 7 < 4096 := by rw [s7]; exact b7
  have g8 : 0 ≤ gf h b 8 ∧ gf h b 8 < 4096 := by rw [s8]; exact b8
  have end_ : ∀ z6 z7 z8, z6 = zor (gf h b 6) (cif (wt = 0) (zbit i) 0) → z7 = zor (gf h b 7) (cif (stf wd) (zbit i) 0) → z8 = zor (gf h b 8) (cif (¬ tal wd) (zbit i) 0) → post none (sf (sf (sf (sf (sa (sa (sa h (b + 2) i x) (b + 3) i y) (b + 4) i g) b 6 z6) b 7 z7) b 8 z8) b 9 (i + 1)) := by
    intro z6 z7 z8 a6 a7 a8
    have cl : ∀ c : Prop, 0 ≤ cif c (zbit i) 0 ∧ cif c (zbit i) 0 < 4096 := fun c => by
      by_cases q : c
      · rw [cif_pos q]; omega
      · rw [cif_neg q]; omega
    have l6 : 0 ≤ z6 ∧ z6 < 4096 := by rw [a6]; exact ⟨zor_0, zor_lt (n := 12) g6.2 (cl _).2 g6.1 (cl _).1⟩
    have l7 : 0 ≤ z7 ∧ z7 < 4096 := by rw [a7]; exact ⟨zor_0, zor_lt (n := 12) g7.2 (cl _).2 g7.1 (cl _).1⟩
    have l8 : 0 ≤ z8 ∧ z8 < 4096 := by rw [a8]; exact ⟨zor_0, zor_lt (n := 12) g8.2 (cl _).2 g8.1 (cl _).1⟩
    refine fin _ (((((((hL.sA (by omega)).sA (by omega)).sA (by omega)).sFb hb (by decide)).sFb hb (by decide)).sFb hb (by decide)).sFb hb (by decide)) (((((((Fr.id.sA (by omega)).sA (by omega)).sA (by omega)).sF (by omega)).sF (by omega)).sF (by omega)).sF (by omega)) ?_ (fun j j0 => ?_) ?_ ?_ ?_
    · simp (disch := omega) only [gf_sf_eq]
    · simp (disch := omega) only [ga_sf, ga_sa_ne, ga_sa, and_self]
    · simp (disch := omega) only [gf_sf_ne, gf_sf_eq]; exact a6
    · simp (disch := omega) only [gf_sf_ne, gf_sf_eq]; exact a7
    · simp (disch := omega) only [gf_sf_ne, gf_sf_eq]; exact a8
  by_cases c1 : wt = 0 <;> by_cases c2 : stf wd <;> by_cases c3 : tal wd
  all_goals
    simp (disch := (first | assumption | omega | exact zor_0 | exact zand_0 | exact zandn_0 | exact zbit_0 | exact zxor_0 | exact (bz_01 _).1 | (repeat (first | assumption | refine Lay.sF ?_ rfl | refine Lay.sA ?_ (by decide) | refine Lay.iall ?_ (by decide) | refine Lay.sL ?_ | refine Lay.sFL ?_ (by decide))))) only [e36_0, e36_1, e36_4, e36_5, e36_8, e36_9, e36_10, e36_11, e36_14, e36_15, e36_18, e36_19, e36_20, e36_21, e36_24, e36_25, e36_28, e36_29, e36_30, e36_31, e36_32, e36_35, e36_36, e36_39, e36_40, e36_43, e36_44, e36_47, e36_48, e36_49, e36_52, e36_53, e36_56, e36_57, e36_58, e36_61, e36_62, e36_63, e36_66, e36_67, e36_68, e36_71, e36_74, e36_77, e36_78, e36_79, e36_82, e36_83, e36_86, e36_87, e36_88, e36_91, e36_92, e36_93, e36_96, e36_97, e36_98, e36_101, e36_104, e36_107, e36_108, e36_109, e36_112, e36_113, e36_116, e36_117, e36_118, e36_121, e36_122, e36_123, e36_126, e36_127, e36_128, e36_131, ne_eq, not_false_eq_true, true_and, and_true, reduceCtorEq, Nat.reduceEqDiff, Nat.reduceAdd, Nat.reduceSub, Nat.reduceLeDiff, Nat.reduceLT, Int.reduceEq, Int.reduceLT, Int.reduceLE, Int.reduceNeg, Int.reduceAdd, Int.reduceSub, Int.reduceMul, Int.reduceToNat, Int.cast_ofNat_Int, Int.natCast_zero, Nat.le_refl, Nat.zero_le, if_true, if_false, ite_true, ite_false, and_self, and_false, false_and, or_true, true_or, or_false, false_or, not_true_eq_false, Classical.not_not, not_or, Int.not_lt, Int.not_le, a_clr, Option.toList_some, Option.toList_none, List.cons_append, List.nil_append, a_cw, List.map_cons, List.map_nil, List.sum_cons, List.sum_nil, Value.category, nar_b0, nar_b1, sh_sa, sh_sf, sh_sl, sh_sfl, a_sh_iall, a_fv_iall, fv_sa, fv_sl, fv_sf_eq, fv_sf_ne, fv_sfl_eq, fv_sfl_ne, ga_sf, ga_sl, ga_sfl, ga_sa_ne, ga_sa, ga_iall_ne, gf_sa, gf_iall, gf_sl, gf_sfl, gf_sf_ne, gf_sf_eq, gl_sa, gl_iall, gl_sf, gl_sl_ne, gl_sl, gfl_sa, gfl_iall, gfl_sl, gfl_sf, gfl_sfl_ne, gfl_sfl_eq, ld_a, ld_0, ld_1, ld_2, st_a, st_0, st_f, ld_l, st_l, st_fl, sa_sa, sf_sf, sfl_sfl, k_max, k_far, k_no, zadd, zsub, zmul, zneg, zmax, zmin, zabs, zltI, zleI, zeqI, zlt0I, zle0I, z0ltI, z0leI, zeq0I, ti_ga, ti_gf, ti_bz, ztoInt, zinT, zix, bz_eq0, bz_eq1, bz_e0, bz_e1, bz_eqb, bz_or1, bz_True, bz_False, zor_i, zand_i, zxor_i, zandn_i, zandn_i2, zbit_i, ib_i, nB0, nB1, nBz, fk_T, fk_F, fk_pos, fk_neg, fk_same, fk_not, fk_and, fk_andn, fk_nand, fk_or, fkP10, fkP01, fkP0z, fkPz0, fkP1z, fkPz1, layLaws hL hb, hb3, hi, e5, qs, qa, c1, c2, c3]
    refine end_ _ _ _ ?_ ?_ ?_
    · first | (rw [cif_pos c1]; done) | (rw [cif_neg c1]; done)
    · first | (rw [cif_pos c2]; done) | (rw [cif_neg c2]; done)
    · first | (rw [cif_pos (by exact c3)]; done) | (rw [cif_neg (fun z => z c3)]; done)
end CLS
