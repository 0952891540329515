/-! the law's case of laws; its loop -/
section LC9
variable {d L : Nat} {h : aH} {post : Option Value → aH → Prop} {i : Int}
theorem frP73 {h h' : aH} (f : FrP h h') : Fr 73 100 h h' := fun a ha => ⟨fun k => f.2.2.2 a k (by omega), f.2.1 a (by omega), by rw [f.1]⟩
theorem frL73 {h h' : aH} (f : FrL h h') : Fr 73 100 h h' := fun a ha => ⟨fun k => f.2.2 a k (by omega), f.2.1 a (by omega), by rw [f.1]⟩
theorem RelM.frP {h h' : aH} {m : Int} {W : Nat → Int → Int} {k : Int} {S : Nat → Int → Int} {seen saw : Int → Int64} {mk : Int} {n : Int} {F T : Int → Int} {q : Int} {w : Int → Int} {x : Int} {X : Int → Int} {tr : Int64} (c : RelM h m W k S seen saw mk n F T q w x X tr) (hO : LwO m W) (f : FrP h h') : RelM h' m W k S seen saw mk n F T q w x X tr := by
  obtain ⟨c1, c2, c3, c4, c5, c6⟩ := c
  have hm := hO.1
  have ag : ∀ a i, (a < 75 ∨ 81 ≤ a) → ga h' a i = ga h a i := fun a i ha => by simp only [ga, f.2.1 a (by omega)]
  have lg : ∀ a i, gl h' a i = gl h a i := fun a i => by simp only [gl, f.1]
  have fg : ∀ k, (k < 10 ∨ 16 ≤ k) → gf h' 73 k = gf h 73 k := fun k hk => by simp only [gf, f.2.2.2 73 k (by omega)]
  refine ⟨⟨(fg 3 (by omega)).trans c1.1, fun i i0 i1 => ?_⟩, ?_, ?_, ?_, ?_, ?_⟩
  · have z := c1.2 i i0 i1
    rw [f.2.2.1 75 i i0 (by omega), f.2.2.1 76 i i0 (by omega), f.2.2.1 77 i i0 (by omega), f.2.2.1 78 i i0 (by omega), f.2.2.1 79 i i0 (by omega), f.2.2.1 80 i i0 (by omega)]
    exact z
  · unfold StM; simp (disch := omega) only [ag, fg, lg]; exact c2
  · unfold LnM; simp (disch := omega) only [ag, fg]; exact c3
  · unfold WdM; simp (disch := omega) only [ag, fg]; exact c4
  · unfold TxM; simp (disch := omega) only [ag, fg]; exact c5
  · have : gfl h' 73 0 = gfl h 73 0 := by simp only [gfl, f.2.2.2 73 0 (by omega)]
    exact this.trans c6
theorem RelM.frLw {h h' : aH} {m : Int} {W : Nat → Int → Int} {k : Int} {S : Nat → Int → Int} {seen saw : Int → Int64} {mk : Int} {n : Int} {F T : Int → Int} {q : Int} {w : Int → Int} {x : Int} {X : Int → Int} {tr : Int64} {m' : Int} {W' : Nat → Int → Int} (c : RelM h m W k S seen saw mk n F T q w x X tr) (f : FrL h h') (c1 : LwM h' m' W') (e2 : gf h' 73 2 = 0) (e16 : gf h' 73 16 = gf h 73 17) : RelM h' m' W' k S seen saw k n F T q w 0 X tr := by
  obtain ⟨_, c2, c3, c4, c5, c6⟩ := c
  have ag : ∀ a i, (a < 75 ∨ 81 ≤ a) → ga h' a i = ga h a i := fun a i ha => by simp only [ga, f.2.1 a (by omega)]
  have lg : ∀ a i, gl h' a i = gl h a i := fun a i => by simp only [gl, f.1]
  have fg : ∀ k, (k < 2 ∨ (4 ≤ k ∧ k < 10) ∨ 17 ≤ k) → gf h' 73 k = gf h 73 k := fun k hk => by simp only [gf, f.2.2 73 k (by omega)]
  refine ⟨c1, ⟨(fg 17 (by omega)).trans c2.1, e16.trans c2.1, fun i i0 i1 => ?_, fun i i0 i1 => ?_⟩, ?_, ?_, ⟨e2, fun j j0 j1 => by omega⟩, ?_⟩
  · simp (disch := omega) only [ag, lg]; exact c2.2.2.1 i i0 i1
  · simp (disch := omega) only [lg]; exact c2.2.2.2 i i0 i1
  · unfold LnM; simp (disch := omega) only [ag, fg]; exact c3
  · unfold WdM; simp (disch := omega) only [ag, fg]; exact c4
  · have : gfl h' 73 0 = gfl h 73 0 := by simp only [gfl, f.2.2 73 0 (by omega)]
    exact this.trans c6
theorem lc2 (hI : Inv L h) (hi : 0 ≤ i ∧ i + 5 ≤ L) (hL : L ≤ 2560) (nx : ∀ h', Inv L h' → R (d + 13) 100 3422 262 18 [.ref 1000, .ref 0, .ref 73, .int (I (i + 5))] [] h' post) : R (d + 13) 100 3422 262 236 [.ref 1000, .ref 0, .ref 73, .int (I i)] [] h post := by
  obtain ⟨a1, a2, b, m, W, k, S, seen, saw, mk, bk, lt, n, F, T, q, w, x, X, tr, rc, rm, ro⟩ := hI
  have qe : ∃ c : Nat, ((b = 59 ∧ c = 66) ∨ (b = 66 ∧ c = 59)) ∧ a_fv h 0 11 = .ref c := by
    obtain ⟨b', c, z1, z2, z3⟩ := layBook a1
    have eb : b' = b := by
      have := z2.symm.trans rc.1
      injection this
    exact ⟨c, by rw [eb] at z1; exact z1, z3⟩
  obtain ⟨c, q1, q2⟩ := qe
  obtain ⟨c1, c2, c3, c4, c5, c6, c7, c8⟩ := rc
  have x4 := ro.2.2.2.2.2.1
  have k6 := ro.2.1.1
  have comp : ∀ h1, FrG (XLw c) YLw h h1 → Fr 0 73 h h1 ∧ LwC h1 b m W ∧ (∀ mk', gf h1 3 11 = mk' → StC h1 k S seen saw mk' bk lt) ∧ LnC h1 n F T ∧ WdC h1 q w ∧ (∀ j, ga h1 2 j = ga h 2 j) ∧ gfl h1 54 2 = tr ∧ (gf h1 24 2 = gf h 24 2 → CacheC h1 k S seen mk W m) := by
    intro h1 f
    have ag : ∀ a i, ¬ (a = 1 ∨ (c ≤ a ∧ a < c + 7)) → ga h1 a i = ga h a i := fun a i ha => f.ag ha
    have lg : ∀ a i, ¬ (a = 1 ∨ (c ≤ a ∧ a < c + 7)) → gl h1 a i = gl h a i := fun a i ha => f.lg ha
    have fg : ∀ a k, ¬ (a = 1 ∨ (c ≤ a ∧ a < c + 7)) → ¬ ((a = 0 ∧ (k = 10 ∨ k = 11)) ∨ (a = 3 ∧ k = 11) ∨ (a = 24 ∧ k = 2)) → gf h1 a k = gf h a k := fun a k ha hk => f.fg ha hk
    refine ⟨f.fr (fun a z => by unfold XLw at z; omega) (fun a k z => by unfold YLw at z; omega), ?_, fun mk' e => ?_, ?_, ?_, fun j => ag 2 j (by omega), ?_, fun e => ?_⟩
    · unfold LwC; simp (disch := omega) only [ag, fg]; exact c2
    · unfold StC at c3 ⊢
      simp (disch := omega) only [ag, fg, lg]
      exact ⟨c3.1, e, c3.2.2⟩
    · unfold LnC; simp (disch := omega) only [ag, fg]; exact c4
    · unfold WdC; simp (disch := omega) only [ag, fg]; exact c5
    · exact (f.lfg (by unfold XLw; omega) (by unfold YLw; omega)).trans c7
    · unfold CacheC SetH SA at c8 ⊢
      rw [e]
      simp (disch := omega) only [ag, fg]
      exact c8
  simp (disch := (first | assumption | omega | exact zor_0 | exact zand_0 | exact zandn_0 | exact zbit_0 | exact zxor_0 | exact (bz_01 _).1 | (repeat (first | assumption | refine Lay.sF ?_ rfl | refine Lay.sA ?_ (by decide) | refine Lay.iall ?_ (by decide) | refine Lay.sL ?_ | refine Lay.sFL ?_ (by decide))))) only [e262_236, e262_237, e262_240, e262_241, e262_244, e262_247, e262_248, e262_1165, e262_1168, e262_1171, e262_1172, ne_eq, not_false_eq_true, true_and, and_true, reduceCtorEq, Nat.reduceEqDiff, Nat.reduceAdd, Nat.reduceSub, Nat.reduceLeDiff, Nat.reduceLT, Int.reduceEq, Int.reduceLT, Int.reduceLE, Int.reduceNeg, Int.reduceAdd, Int.reduceSub, Int.reduceMul, Int.reduceToNat, Int.cast_ofNat_Int, Int.natCast_zero, Nat.le_refl, Nat.zero_le, if_true, if_false, ite_true, ite_false, and_self, and_false, false_and, or_true, true_or, or_false, false_or, not_true_eq_false, Classical.not_not, not_or, Int.not_lt, Int.not_le, a_clr, Option.toList_some, Option.toList_none, List.cons_append, List.nil_append, a_cw, List.map_cons, List.map_nil, List.sum_cons, List.sum_nil, Value.category, nar_b0, nar_b1, sh_sa, sh_sf, sh_sl, sh_sfl, a_sh_iall, a_fv_iall, fv_sa, fv_sl, fv_sf_eq, fv_sf_ne, fv_sfl_eq, fv_sfl_ne, ga_sf, ga_sl, ga_sfl, ga_sa_ne, ga_sa, ga_iall_ne, gf_sa, gf_iall, gf_sl, gf_sfl, gf_sf_ne, gf_sf_eq, gl_sa, gl_iall, gl_sf, gl_sl_ne, gl_sl, gfl_sa, gfl_iall, gfl_sl, gfl_sf, gfl_sfl_ne, gfl_sfl_eq, ld_a, ld_0, ld_1, ld_2, st_a, st_0, st_f, ld_l, st_l, st_fl, sa_sa, sf_sf, sfl_sfl, k_max, k_far, k_no, zadd, zsub, zmul, zneg, zmax, zmin, zabs, zltI, zleI, zeqI, zlt0I, zle0I, z0ltI, z0leI, zeq0I, ti_ga, ti_gf, ti_bz, ztoInt, zinT, zix, bz_eq0, bz_eq1, bz_e0, bz_e1, bz_eqb, bz_or1, bz_True, bz_False, zor_i, zand_i, zxor_i, zandn_i, zandn_i2, zbit_i, ib_i, nB0, nB1, nBz, fk_T, fk_F, fk_pos, fk_neg, fk_same, fk_not, fk_and, fk_andn, fk_nand, fk_or, fkP10, fkP01, fkP0z, fkPz0, fkP1z, fkPz1, layHP a1, a2]
  refine R_shI ?_
  refine c_HP_laws a1 q1 c1 q2 c6 ro.2.2.2.2.2 (fun e h1 d0 d1 d2 d3 d4 d5 d6 => ?_) (fun m' W' h1 d0 d1 d2 d3 d4 d5 d6 d7 d8 => ?_)
  · intro hsh
    have s1 := hsh.trans a2
    obtain ⟨f, g2, g3, g4, g5, g6, g7, g8⟩ := comp h1 d2
    have rm1 := rm.fr f
    have rc1 : RelC h1 b m W k S seen saw mk bk lt n F T q w x X tr := ⟨d4, g2, g3 mk (d6.trans c3.2.1), g4, g5, ⟨d3, fun j j0 j1 => (g6 j).trans (c6.2 j j0 j1)⟩, g7, g8 d5⟩
    simp (disch := (first | assumption | omega | exact zor_0 | exact zand_0 | exact zandn_0 | exact zbit_0 | exact zxor_0 | exact (bz_01 _).1 | (repeat (first | assumption | refine Lay.sF ?_ rfl | refine Lay.sA ?_ (by decide) | refine Lay.iall ?_ (by decide) | refine Lay.sL ?_ | refine Lay.sFL ?_ (by decide))))) only [e262_236, e262_237, e262_240, e262_241, e262_244, e262_247, e262_248, e262_1165, e262_1168, e262_1171, e262_1172, ne_eq, not_false_eq_true, true_and, and_true, reduceCtorEq, Nat.reduceEqDiff, Nat.reduceAdd, Nat.reduceSub, Nat.reduceLeDiff, Nat.reduceLT, Int.reduceEq, Int.reduceLT, Int.reduceLE, Int.reduceNeg, Int.reduceAdd, Int.reduceSub, Int.reduceMul, Int.reduceToNat, Int.cast_ofNat_Int, Int.natCast_zero, Nat.le_refl, Nat.zero_le, if_true, if_false, ite_true, ite_false, and_self, and_false, false_and, or_true, true_or, or_false, false_or, not_true_eq_false, Classical.not_not, not_or, Int.not_lt, Int.not_le, a_clr, Option.toList_some, Option.toList_none, List.cons_append, List.nil_append, a_cw, List.map_cons, List.map_nil, List.sum_cons, List.sum_nil, Value.category, nar_b0, nar_b1, sh_sa, sh_sf, sh_sl, sh_sfl, a_sh_iall, a_fv_iall, fv_sa, fv_sl, fv_sf_eq, fv_sf_ne, fv_sfl_eq, fv_sfl_ne, ga_sf, ga_sl, ga_sfl, ga_sa_ne, ga_sa, ga_iall_ne, gf_sa, gf_iall, gf_sl, gf_sfl, gf_sf_ne, gf_sf_eq, gl_sa, gl_iall, gl_sf, gl_sl_ne, gl_sl, gfl_sa, gfl_iall, gfl_sl, gfl_sf, gfl_sfl_ne, gfl_sfl_eq, ld_a, ld_0, ld_1, ld_2, st_a, st_0, st_f, ld_l, st_l, st_fl, sa_sa, sf_sf, sfl_sfl, k_max, k_far, k_no, zadd, zsub, zmul, zneg, zmax, zmin, zabs, zltI, zleI, zeqI, zlt0I, zle0I, z0ltI, z0leI, zeq0I, ti_ga, ti_gf, ti_bz, ztoInt, zinT, zix, bz_eq0, bz_eq1, bz_e0, bz_e1, bz_eqb, bz_or1, bz_True, bz_False, zor_i, zand_i, zxor_i, zandn_i, zandn_i2, zbit_i, ib_i, nB0, nB1, nBz, fk_T, fk_F, fk_pos, fk_neg, fk_same, fk_not, fk_and, fk_andn, fk_nand, fk_or, fkP10, fkP01, fkP0z, fkPz0, fkP1z, fkPz1, layM d1, s1]
    refine R_shI ?_
    refine c_M_laws d1 rm1.2.2.2.2.1 ro.2.2.2.2.2 (fun e2 h2 e0 e1 e2' => ?_) (fun m2 W2 h2 e0 => ?_)
    · intro hsh2
      have s2 := hsh2.trans s1
      rw [d0] at e0
      injection e0 with e0
      subst e0
      simp (disch := (first | assumption | omega | exact zor_0 | exact zand_0 | exact zandn_0 | exact zbit_0 | exact zxor_0 | exact (bz_01 _).1 | (repeat (first | assumption | refine Lay.sF ?_ rfl | refine Lay.sA ?_ (by decide) | refine Lay.iall ?_ (by decide) | refine Lay.sL ?_ | refine Lay.sFL ?_ (by decide))))) only [e262_236, e262_237, e262_240, e262_241, e262_244, e262_247, e262_248, e262_1165, e262_1168, e262_1171, e262_1172, ne_eq, not_false_eq_true, true_and, and_true, reduceCtorEq, Nat.reduceEqDiff, Nat.reduceAdd, Nat.reduceSub, Nat.reduceLeDiff, Nat.reduceLT, Int.reduceEq, Int.reduceLT, Int.reduceLE, Int.reduceNeg, Int.reduceAdd, Int.reduceSub, Int.reduceMul, Int.reduceToNat, Int.cast_ofNat_Int, Int.natCast_zero, Nat.le_refl, Nat.zero_le, if_true, if_false, ite_true, ite_false, and_self, and_false, false_and, or_true, true_or, or_false, false_or, not_true_eq_false, Classical.not_not, not_or, Int.not_lt, Int.not_le, a_clr, Option.toList_some, Option.toList_none, List.cons_append, List.nil_append, a_cw, List.map_cons, List.map_nil, List.sum_cons, List.sum_nil, Value.category, nar_b0, nar_b1, sh_sa, sh_sf, sh_sl, sh_sfl, a_sh_iall, a_fv_iall, fv_sa, fv_sl, fv_sf_eq, fv_sf_ne, fv_sfl_eq, fv_sfl_ne, ga_sf, ga_sl, ga_sfl, ga_sa_ne, ga_sa, ga_iall_ne, gf_sa, gf_iall, gf_sl, gf_sfl, gf_sf_ne, gf_sf_eq, gl_sa, gl_iall, gl_sf, gl_sl_ne, gl_sl, gfl_sa, gfl_iall, gfl_sl, gfl_sf, gfl_sfl_ne, gfl_sfl_eq, ld_a, ld_0, ld_1, ld_2, st_a, st_0, st_f, ld_l, st_l, st_fl, sa_sa, sf_sf, sfl_sfl, k_max, k_far, k_no, zadd, zsub, zmul, zneg, zmax, zmin, zabs, zltI, zleI, zeqI, zlt0I, zle0I, z0ltI, z0leI, zeq0I, ti_ga, ti_gf, ti_bz, ztoInt, zinT, zix, bz_eq0, bz_eq1, bz_e0, bz_e1, bz_eqb, bz_or1, bz_True, bz_False, zor_i, zand_i, zxor_i, zandn_i, zandn_i2, zbit_i, ib_i, nB0, nB1, nBz, fk_T, fk_F, fk_pos, fk_neg, fk_same, fk_not, fk_and, fk_andn, fk_nand, fk_or, fkP10, fkP01, fkP0z, fkPz0, fkP1z, fkPz1]
      exact nx h2 ⟨e1, s2, _, _, _, _, _, _, _, _, _, _, _, _, _, _, _, _, _, _, rc1.fr (frP73 e2'), rm1.frP ro.1 e2', ro⟩
    · rw [d0] at e0; cases e0
  · intro hsh
    have s1 := hsh.trans a2
    obtain ⟨f, g2, g3, g4, g5, g6, g7, g8⟩ := comp h1 d2
    have rm1 := rm.fr f
    have rc1 : RelC h1 c m' W' k S seen saw k bk lt n F T q w 0 X tr := ⟨d4, d7, g3 k (d6.trans c3.1), g4, g5, ⟨d3, fun j j0 j1 => by omega⟩, g7, Or.inl d5⟩
    simp (disch := (first | assumption | omega | exact zor_0 | exact zand_0 | exact zandn_0 | exact zbit_0 | exact zxor_0 | exact (bz_01 _).1 | (repeat (first | assumption | refine Lay.sF ?_ rfl | refine Lay.sA ?_ (by decide) | refine Lay.iall ?_ (by decide) | refine Lay.sL ?_ | refine Lay.sFL ?_ (by decide))))) only [e262_236, e262_237, e262_240, e262_241, e262_244, e262_247, e262_248, e262_1165, e262_1168, e262_1171, e262_1172, ne_eq, not_false_eq_true, true_and, and_true, reduceCtorEq, Nat.reduceEqDiff, Nat.reduceAdd, Nat.reduceSub, Nat.reduceLeDiff, Nat.reduceLT, Int.reduceEq, Int.reduceLT, Int.reduceLE, Int.reduceNeg, Int.reduceAdd, Int.reduceSub, Int.reduceMul, Int.reduceToNat, Int.cast_ofNat_Int, Int.natCast_zero, Nat.le_refl, Nat.zero_le, if_true, if_false, ite_true, ite_false, and_self, and_false, false_and, or_true, true_or, or_false, false_or, not_true_eq_false, Classical.not_not, not_or, Int.not_lt, Int.not_le, a_clr, Option.toList_some, Option.toList_none, List.cons_append, List.nil_append, a_cw, List.map_cons, List.map_nil, List.sum_cons, List.sum_nil, Value.category, nar_b0, nar_b1, sh_sa, sh_sf, sh_sl, sh_sfl, a_sh_iall, a_fv_iall, fv_sa, fv_sl, fv_sf_eq, fv_sf_ne, fv_sfl_eq, fv_sfl_ne, ga_sf, ga_sl, ga_sfl, ga_sa_ne, ga_sa, ga_iall_ne, gf_sa, gf_iall, gf_sl, gf_sfl, gf_sf_ne, gf_sf_eq, gl_sa, gl_iall, gl_sf, gl_sl_ne, gl_sl, gfl_sa, gfl_iall, gfl_sl, gfl_sf, gfl_sfl_ne, gfl_sfl_eq, ld_a, ld_0, ld_1, ld_2, st_a, st_0, st_f, ld_l, st_l, st_fl, sa_sa, sf_sf, sfl_sfl, k_max, k_far, k_no, zadd, zsub, zmul, zneg, zmax, zmin, zabs, zltI, zleI, zeqI, zlt0I, zle0I, z0ltI, z0leI, zeq0I, ti_ga, ti_gf, ti_bz, ztoInt, zinT, zix, bz_eq0, bz_eq1, bz_e0, bz_e1, bz_eqb, bz_or1, bz_True, bz_False, zor_i, zand_i, zxor_i, zandn_i, zandn_i2, zbit_i, ib_i, nB0, nB1, nBz, fk_T, fk_F, fk_pos, fk_neg, fk_same, fk_not, fk_and, fk_andn, fk_nand, fk_or, fkP10, fkP01, fkP0z, fkPz0, fkP1z, fkPz1, layM d1, s1]
    refine R_shI ?_
    refine c_M_laws d1 rm1.2.2.2.2.1 ro.2.2.2.2.2 (fun e2 h2 e0 => ?_) (fun m2 W2 h2 e0 e1 e2 e3 e4 e5 => ?_)
    · rw [d0] at e0; cases e0
    · intro hsh2
      have s2 := hsh2.trans s1
      rw [d0] at e0
      injection e0 with e0
      injection e0 with e6 e7
      subst e6; subst e7
      simp (disch := (first | assumption | omega | exact zor_0 | exact zand_0 | exact zandn_0 | exact zbit_0 | exact zxor_0 | exact (bz_01 _).1 | (repeat (first | assumption | refine Lay.sF ?_ rfl | refine Lay.sA ?_ (by decide) | refine Lay.iall ?_ (by decide) | refine Lay.sL ?_ | refine Lay.sFL ?_ (by decide))))) only [e262_236, e262_237, e262_240, e262_241, e262_244, e262_247, e262_248, e262_1165, e262_1168, e262_1171, e262_1172, ne_eq, not_false_eq_true, true_and, and_true, reduceCtorEq, Nat.reduceEqDiff, Nat.reduceAdd, Nat.reduceSub, Nat.reduceLeDiff, Nat.reduceLT, Int.reduceEq, Int.reduceLT, Int.reduceLE, Int.reduceNeg, Int.reduceAdd, Int.reduceSub, Int.reduceMul, Int.reduceToNat, Int.cast_ofNat_Int, Int.natCast_zero, Nat.le_refl, Nat.zero_le, if_true, if_false, ite_true, ite_false, and_self, and_false, false_and, or_true, true_or, or_false, false_or, not_true_eq_false, Classical.not_not, not_or, Int.not_lt, Int.not_le, a_clr, Option.toList_some, Option.toList_none, List.cons_append, List.nil_append, a_cw, List.map_cons, List.map_nil, List.sum_cons, List.sum_nil, Value.category, nar_b0, nar_b1, sh_sa, sh_sf, sh_sl, sh_sfl, a_sh_iall, a_fv_iall, fv_sa, fv_sl, fv_sf_eq, fv_sf_ne, fv_sfl_eq, fv_sfl_ne, ga_sf, ga_sl, ga_sfl, ga_sa_ne, ga_sa, ga_iall_ne, gf_sa, gf_iall, gf_sl, gf_sfl, gf_sf_ne, gf_sf_eq, gl_sa, gl_iall, gl_sf, gl_sl_ne, gl_sl, gfl_sa, gfl_iall, gfl_sl, gfl_sf, gfl_sfl_ne, gfl_sfl_eq, ld_a, ld_0, ld_1, ld_2, st_a, st_0, st_f, ld_l, st_l, st_fl, sa_sa, sf_sf, sfl_sfl, k_max, k_far, k_no, zadd, zsub, zmul, zneg, zmax, zmin, zabs, zltI, zleI, zeqI, zlt0I, zle0I, z0ltI, z0leI, zeq0I, ti_ga, ti_gf, ti_bz, ztoInt, zinT, zix, bz_eq0, bz_eq1, bz_e0, bz_e1, bz_eqb, bz_or1, bz_True, bz_False, zor_i, zand_i, zxor_i, zandn_i, zandn_i2, zbit_i, ib_i, nB0, nB1, nBz, fk_T, fk_F, fk_pos, fk_neg, fk_same, fk_not, fk_and, fk_andn, fk_nand, fk_or, fkP10, fkP01, fkP0z, fkPz0, fkP1z, fkPz1]
      exact nx h2 ⟨e1, s2, _, _, _, _, _, _, _, _, _, _, _, _, _, _, _, _, _, _, rc1.fr (frL73 e2), rm1.frLw e2 e3 e4 e5, d8, ⟨⟨k6.1, k6.2.1, k6.1, Int.le_refl _⟩, ro.2.1.2⟩, (fun c z1 z2 => by omega), ro.2.2.2.1, ro.2.2.2.2.1, by omega, fun j j0 j1 => by omega⟩
end LC9
