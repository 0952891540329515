/-! QUARRELS: the object's walks -/
def qPt (h : aH) (f g : Nat) : Prop := ((f = 48 ∧ g = 49) ∨ (f = 49 ∧ g = 48)) ∧ a_fv h 47 0 = .ref f ∧ a_fv h 47 1 = .ref g
def FT (h : aH) (f : Nat) (t : Int → Int → Int) : Prop := ∀ a b, in6 a → in6 b → ga h f (a * 6 + b) = t a b
/-- one more step, by LAWS ahead of n -/
def nxN (W : Nat → Int → Int) (P : Int → Prop) (n : Int) (t w : Int → Int → Int) : Prop := (∀ l s c b g, 0 ≤ l → l < n → P l → edg W l c b g → in6 s → in6 b → t s c + g ≤ w s b) ∧ ∀ s b, in6 s → in6 b → w s b = -1000000 ∨ (-1000000 ≤ w s b ∧ ∃ l c g, (0 ≤ l ∧ l < n) ∧ P l ∧ edg W l c b g ∧ in6 c ∧ w s b = t s c + g)
def upT (w t : Int → Int → Int) (a b g s y : Int) : Int := if y = b then max (w s y) (t s a + g) else w s y
theorem rem7 : ∀ k : Nat, k < 36 → I (k : Int) - I (k : Int) / I 7 * I 7 = I ((k % 7 : Nat) : Int) := by decide +kernel
section QUW
variable {d : Nat} {h : aH} {post : Option Value → aH → Prop} {f g b : Nat} {t w : Int → Int → Int} {m : Int} {W : Nat → Int → Int} {P : Int → Prop}
theorem layQ (hL : Lay h) : a_sh h 47 = (1, 6, 2) ∧ a_sh h 48 = (2, 0, 36) ∧ a_sh h 49 = (2, 0, 36) := layQuarrels hL
theorem qPt.sh (hL : Lay h) (q : qPt h f g) : a_sh h 47 = (1, 6, 2) ∧ a_sh h f = (2, 0, 36) ∧ a_sh h g = (2, 0, 36) ∧ a_fv h 47 0 = .ref f ∧ a_fv h 47 1 = .ref g ∧ ¬ f = 1003 ∧ ¬ g = 1003 ∧ f < 1000 ∧ g < 1000 ∧ ¬ f = g ∧ ¬ g = f := by
  have l := layQ hL
  obtain ⟨q1 | q1, q2, q3⟩ := q
  · obtain ⟨rfl, rfl⟩ := q1; exact ⟨l.1, l.2.1, l.2.2, q2, q3, by omega, by omega, by omega, by omega, by omega, by omega⟩
  · obtain ⟨rfl, rfl⟩ := q1; exact ⟨l.1, l.2.2, l.2.1, q2, q3, by omega, by omega, by omega, by omega, by omega, by omega⟩
theorem qPt.fr {lo hi : Nat} {h' : aH} (q : qPt h f g) (r : Fr lo hi h h') (hc : hi ≤ 47 ∨ 48 ≤ lo) : qPt h' f g := ⟨q.1, (r.fv (by omega)).trans q.2.1, (r.fv (by omega)).trans q.2.2⟩
theorem FT.fr {lo hi : Nat} {h' : aH} (q : FT h f t) (r : Fr lo hi h h') (hc : f < lo ∨ hi ≤ f) : FT h' f t := fun a b ha hb => (r.ag hc).trans (q a b ha hb)
theorem c_Quarrels_walk (hL : Lay h) (q : qPt h f g) (hF : FT h f t) (hG : FT h g w) {a c e : Int} (ha : in6 a) (hc : in6 c) (he : -19 ≤ e ∧ e ≤ 19) (ht : ∀ x y, in6 x → in6 y → -1000000 ≤ t x y ∧ t x y ≤ 1000) (hw : ∀ x y, in6 x → in6 y → -1000000 ≤ w x y ∧ w x y ≤ 2000) (kk : ∀ h', Lay h' → Fr g (g + 1) h h' → FT h' g (upT w t a c e) → post none h') : R d 0 0 76 0 [.ref 47, .int (I a), .int (I c), .int (I e), .null, .null] [] h post := by
  have g4 : g = 48 ∨ g = 49 := by have := q.1; omega
  have ac := ha
  have cc := hc
  unfold in6 at ac cc
  simp (disch := (first | assumption | omega | exact zor_0 | exact zand_0 | exact zandn_0 | exact zbit_0 | exact zxor_0 | exact (bz_01 _).1 | (repeat (first | assumption | refine Lay.sF ?_ rfl | refine Lay.sA ?_ (by decide) | refine Lay.iall ?_ (by decide) | refine Lay.sL ?_ | refine Lay.sFL ?_ (by decide))))) only [e76_0, e76_1, e76_5, e76_7, e76_10, e76_11, e76_14, e76_16, e76_18, e76_19, e76_20, e76_21, e76_22, e76_23, e76_24, e76_26, e76_28, e76_29, e76_32, e76_34, e76_36, e76_37, e76_38, e76_39, e76_40, e76_43, e76_44, e76_47, e76_49, e76_51, e76_52, e76_53, e76_54, e76_56, e76_57, e76_60, e76_63, ne_eq, not_false_eq_true, true_and, and_true, reduceCtorEq, Nat.reduceEqDiff, Nat.reduceAdd, Nat.reduceSub, Nat.reduceLeDiff, Nat.reduceLT, Int.reduceEq, Int.reduceLT, Int.reduceLE, Int.reduceNeg, Int.reduceAdd, Int.reduceSub, Int.reduceMul, Int.reduceToNat, Int.cast_ofNat_Int, Int.natCast_zero, Nat.le_refl, Nat.zero_le, if_true, if_false, ite_true, ite_false, and_self, and_false, false_and, or_true, true_or, or_false, false_or, not_true_eq_false, Classical.not_not, not_or, Int.not_lt, Int.not_le, a_clr, Option.toList_some, Option.toList_none, List.cons_append, List.nil_append, a_cw, List.map_cons, List.map_nil, List.sum_cons, List.sum_nil, Value.category, nar_b0, nar_b1, sh_sa, sh_sf, sh_sl, sh_sfl, a_sh_iall, a_fv_iall, fv_sa, fv_sl, fv_sf_eq, fv_sf_ne, fv_sfl_eq, fv_sfl_ne, ga_sf, ga_sl, ga_sfl, ga_sa_ne, ga_sa, ga_iall_ne, gf_sa, gf_iall, gf_sl, gf_sfl, gf_sf_ne, gf_sf_eq, gl_sa, gl_iall, gl_sf, gl_sl_ne, gl_sl, gfl_sa, gfl_iall, gfl_sl, gfl_sf, gfl_sfl_ne, gfl_sfl_eq, ld_a, ld_0, ld_1, ld_2, st_a, st_0, st_f, ld_l, st_l, st_fl, sa_sa, sf_sf, sfl_sfl, k_max, k_far, k_no, zadd, zsub, zmul, zneg, zmax, zmin, zabs, zltI, zleI, zeqI, zlt0I, zle0I, z0ltI, z0leI, zeq0I, ti_ga, ti_gf, ti_bz, ztoInt, zinT, zix, bz_eq0, bz_eq1, bz_e0, bz_e1, bz_eqb, bz_or1, bz_True, bz_False, zor_i, zand_i, zxor_i, zandn_i, zandn_i2, zbit_i, ib_i, nB0, nB1, nBz, fk_T, fk_F, fk_pos, fk_neg, fk_same, fk_not, fk_and, fk_andn, fk_nand, fk_or, fkP10, fkP01, fkP0z, fkPz0, fkP1z, fkPz1]
  refine R_forJ (J := Value) (fun s l5 => [.ref 47, .int (I a), .int (I c), .int (I e), .int (I s), l5]) (fun s h' => Lay h' ∧ Fr g (g + 1) h h' ∧ ∀ x y, in6 x → in6 y → ga h' g (x * 6 + y) = if x < s then upT w t a c e x y else w x y) 6 (fun s l5 h' hs hV ih => ?_) (fun l5 h' hV => ?_) _ h ⟨hL, Fr.id, fun x y hx hy => by unfold in6 at hx; rw [if_neg (by omega)]; exact hG x y hx hy⟩
  · obtain ⟨v1, v2, v3⟩ := hV
    have q1 := q.fr v2 (by omega)
    have sh := q1.sh v1
    have s6 : in6 (s : Int) := by unfold in6; omega
    have e1 : ga h' f ((s : Int) * 6 + a) = t s a := (v2.ag (by have := sh.2.2.2.2.2.2.2.2.2.1; have := q.1; omega)).trans (hF s a s6 ha)
    have e2 : ga h' g ((s : Int) * 6 + c) = w s c := by rw [v3 s c s6 hc, if_neg (by omega)]
    have r1 := ht s a s6 ha
    have r2 := hw s c s6 hc
    have nx : ∀ h2, (∀ y, in6 y → ga h2 g ((s : Int) * 6 + y) = upT w t a c e s y) → (∀ x y, in6 x → in6 y → ¬ x = s → ga h2 g (x * 6 + y) = ga h' g (x * 6 + y)) → ∀ x y, in6 x → in6 y → ga h2 g (x * 6 + y) = if x < ((s + 1 : Nat) : Int) then upT w t a c e x y else w x y := by
      intro h2 k1 k2 x y hx hy
      by_cases z : x = s
      · rw [z, if_pos (by omega)]; exact k1 y hy
      · rw [k2 x y hx hy z, v3 x y hx hy]
        by_cases z2 : x < s
        · rw [if_pos z2, if_pos (by omega)]
        · rw [if_neg z2, if_neg (by omega)]
    rw [e76_3]
    by_cases c1 : w s c < t s a + e
    · simp (disch := (first | assumption | omega | exact zor_0 | exact zand_0 | exact zandn_0 | exact zbit_0 | exact zxor_0 | exact (bz_01 _).1 | (repeat (first | assumption | refine Lay.sF ?_ rfl | refine Lay.sA ?_ (by decide) | refine Lay.iall ?_ (by decide) | refine Lay.sL ?_ | refine Lay.sFL ?_ (by decide))))) only [e76_0, e76_1, e76_5, e76_7, e76_10, e76_11, e76_14, e76_16, e76_18, e76_19, e76_20, e76_21, e76_22, e76_23, e76_24, e76_26, e76_28, e76_29, e76_32, e76_34, e76_36, e76_37, e76_38, e76_39, e76_40, e76_43, e76_44, e76_47, e76_49, e76_51, e76_52, e76_53, e76_54, e76_56, e76_57, e76_60, e76_63, ne_eq, not_false_eq_true, true_and, and_true, reduceCtorEq, Nat.reduceEqDiff, Nat.reduceAdd, Nat.reduceSub, Nat.reduceLeDiff, Nat.reduceLT, Int.reduceEq, Int.reduceLT, Int.reduceLE, Int.reduceNeg, Int.reduceAdd, Int.reduceSub, Int.reduceMul, Int.reduceToNat, Int.cast_ofNat_Int, Int.natCast_zero, Nat.le_refl, Nat.zero_le, if_true, if_false, ite_true, ite_false, and_self, and_false, false_and, or_true, true_or, or_false, false_or, not_true_eq_false, Classical.not_not, not_or, Int.not_lt, Int.not_le, a_clr, Option.toList_some, Option.toList_none, List.cons_append, List.nil_append, a_cw, List.map_cons, List.map_nil, List.sum_cons, List.sum_nil, Value.category, nar_b0, nar_b1, sh_sa, sh_sf, sh_sl, sh_sfl, a_sh_iall, a_fv_iall, fv_sa, fv_sl, fv_sf_eq, fv_sf_ne, fv_sfl_eq, fv_sfl_ne, ga_sf, ga_sl, ga_sfl, ga_sa_ne, ga_sa, ga_iall_ne, gf_sa, gf_iall, gf_sl, gf_sfl, gf_sf_ne, gf_sf_eq, gl_sa, gl_iall, gl_sf, gl_sl_ne, gl_sl, gfl_sa, gfl_iall, gfl_sl, gfl_sf, gfl_sfl_ne, gfl_sfl_eq, ld_a, ld_0, ld_1, ld_2, st_a, st_0, st_f, ld_l, st_l, st_fl, sa_sa, sf_sf, sfl_sfl, k_max, k_far, k_no, zadd, zsub, zmul, zneg, zmax, zmin, zabs, zltI, zleI, zeqI, zlt0I, zle0I, z0ltI, z0leI, zeq0I, ti_ga, ti_gf, ti_bz, ztoInt, zinT, zix, bz_eq0, bz_eq1, bz_e0, bz_e1, bz_eqb, bz_or1, bz_True, bz_False, zor_i, zand_i, zxor_i, zandn_i, zandn_i2, zbit_i, ib_i, nB0, nB1, nBz, fk_T, fk_F, fk_pos, fk_neg, fk_same, fk_not, fk_and, fk_andn, fk_nand, fk_or, fkP10, fkP01, fkP0z, fkPz0, fkP1z, fkPz1, sh, e1, e2, c1]
      refine ih _ _ ⟨v1.sA (by omega), v2.sA (by omega), nx _ (fun y hy => ?_) (fun x y hx hy hne => ?_)⟩
      · have hy2 := hy
        unfold in6 at hy2
        rw [ga_sa (by omega) (by omega) (by omega) (by omega)]
        unfold upT
        by_cases z : y = c
        · rw [if_pos (by omega), if_pos z, z]; omega
        · rw [if_neg (by omega), if_neg z, v3 s y s6 hy, if_neg (by omega)]
      · unfold in6 at hx hy
        rw [ga_sa (by omega) (by omega) (by omega) (by omega), if_neg (by omega)]
    · simp (disch := (first | assumption | omega | exact zor_0 | exact zand_0 | exact zandn_0 | exact zbit_0 | exact zxor_0 | exact (bz_01 _).1 | (repeat (first | assumption | refine Lay.sF ?_ rfl | refine Lay.sA ?_ (by decide) | refine Lay.iall ?_ (by decide) | refine Lay.sL ?_ | refine Lay.sFL ?_ (by decide))))) only [e76_0, e76_1, e76_5, e76_7, e76_10, e76_11, e76_14, e76_16, e76_18, e76_19, e76_20, e76_21, e76_22, e76_23, e76_24, e76_26, e76_28, e76_29, e76_32, e76_34, e76_36, e76_37, e76_38, e76_39, e76_40, e76_43, e76_44, e76_47, e76_49, e76_51, e76_52, e76_53, e76_54, e76_56, e76_57, e76_60, e76_63, ne_eq, not_false_eq_true, true_and, and_true, reduceCtorEq, Nat.reduceEqDiff, Nat.reduceAdd, Nat.reduceSub, Nat.reduceLeDiff, Nat.reduceLT, Int.reduceEq, Int.reduceLT, Int.reduceLE, Int.reduceNeg, Int.reduceAdd, Int.reduceSub, Int.reduceMul, Int.reduceToNat, Int.cast_ofNat_Int, Int.natCast_zero, Nat.le_refl, Nat.zero_le, if_true, if_false, ite_true, ite_false, and_self, and_false, false_and, or_true, true_or, or_false, false_or, not_true_eq_false, Classical.not_not, not_or, Int.not_lt, Int.not_le, a_clr, Option.toList_some, Option.toList_none, List.cons_append, List.nil_append, a_cw, List.map_cons, List.map_nil, List.sum_cons, List.sum_nil, Value.category, nar_b0, nar_b1, sh_sa, sh_sf, sh_sl, sh_sfl, a_sh_iall, a_fv_iall, fv_sa, fv_sl, fv_sf_eq, fv_sf_ne, fv_sfl_eq, fv_sfl_ne, ga_sf, ga_sl, ga_sfl, ga_sa_ne, ga_sa, ga_iall_ne, gf_sa, gf_iall, gf_sl, gf_sfl, gf_sf_ne, gf_sf_eq, gl_sa, gl_iall, gl_sf, gl_sl_ne, gl_sl, gfl_sa, gfl_iall, gfl_sl, gfl_sf, gfl_sfl_ne, gfl_sfl_eq, ld_a, ld_0, ld_1, ld_2, st_a, st_0, st_f, ld_l, st_l, st_fl, sa_sa, sf_sf, sfl_sfl, k_max, k_far, k_no, zadd, zsub, zmul, zneg, zmax, zmin, zabs, zltI, zleI, zeqI, zlt0I, zle0I, z0ltI, z0leI, zeq0I, ti_ga, ti_gf, ti_bz, ztoInt, zinT, zix, bz_eq0, bz_eq1, bz_e0, bz_e1, bz_eqb, bz_or1, bz_True, bz_False, zor_i, zand_i, zxor_i, zandn_i, zandn_i2, zbit_i, ib_i, nB0, nB1, nBz, fk_T, fk_F, fk_pos, fk_neg, fk_same, fk_not, fk_and, fk_andn, fk_nand, fk_or, fkP10, fkP01, fkP0z, fkPz0, fkP1z, fkPz1, sh, e1, e2, c1]
      refine ih _ _ ⟨v1, v2, nx _ (fun y hy => ?_) (fun x y hx hy hne => rfl)⟩
      rw [v3 s y s6 hy, if_neg (by omega)]
      unfold upT
      by_cases z : y = c
      · rw [if_pos z, z]; omega
      · rw [if_neg z]
  · obtain ⟨v1, v2, v3⟩ := hV
    rw [e76_3]
    simp (disch := (first | assumption | omega | exact zor_0 | exact zand_0 | exact zandn_0 | exact zbit_0 | exact zxor_0 | exact (bz_01 _).1 | (repeat (first | assumption | refine Lay.sF ?_ rfl | refine Lay.sA ?_ (by decide) | refine Lay.iall ?_ (by decide) | refine Lay.sL ?_ | refine Lay.sFL ?_ (by decide))))) only [e76_0, e76_1, e76_5, e76_7, e76_10, e76_11, e76_14, e76_16, e76_18, e76_19, e76_20, e76_21, e76_22, e76_23, e76_24, e76_26, e76_28, e76_29, e76_32, e76_34, e76_36, e76_37, e76_38, e76_39, e76_40, e76_43, e76_44, e76_47, e76_49, e76_51, e76_52, e76_53, e76_54, e76_56, e76_57, e76_60, e76_63, ne_eq, not_false_eq_true, true_and, and_true, reduceCtorEq, Nat.reduceEqDiff, Nat.reduceAdd, Nat.reduceSub, Nat.reduceLeDiff, Nat.reduceLT, Int.reduceEq, Int.reduceLT, Int.reduceLE, Int.reduceNeg, Int.reduceAdd, Int.reduceSub, Int.reduceMul, Int.reduceToNat, Int.cast_ofNat_Int, Int.natCast_zero, Nat.le_refl, Nat.zero_le, if_true, if_false, ite_true, ite_false, and_self, and_false, false_and, or_true, true_or, or_false, false_or, not_true_eq_false, Classical.not_not, not_or, Int.not_lt, Int.not_le, a_clr, Option.toList_some, Option.toList_none, List.cons_append, List.nil_append, a_cw, List.map_cons, List.map_nil, List.sum_cons, List.sum_nil, Value.category, nar_b0, nar_b1, sh_sa, sh_sf, sh_sl, sh_sfl, a_sh_iall, a_fv_iall, fv_sa, fv_sl, fv_sf_eq, fv_sf_ne, fv_sfl_eq, fv_sfl_ne, ga_sf, ga_sl, ga_sfl, ga_sa_ne, ga_sa, ga_iall_ne, gf_sa, gf_iall, gf_sl, gf_sfl, gf_sf_ne, gf_sf_eq, gl_sa, gl_iall, gl_sf, gl_sl_ne, gl_sl, gfl_sa, gfl_iall, gfl_sl, gfl_sf, gfl_sfl_ne, gfl_sfl_eq, ld_a, ld_0, ld_1, ld_2, st_a, st_0, st_f, ld_l, st_l, st_fl, sa_sa, sf_sf, sfl_sfl, k_max, k_far, k_no, zadd, zsub, zmul, zneg, zmax, zmin, zabs, zltI, zleI, zeqI, zlt0I, zle0I, z0ltI, z0leI, zeq0I, ti_ga, ti_gf, ti_bz, ztoInt, zinT, zix, bz_eq0, bz_eq1, bz_e0, bz_e1, bz_eqb, bz_or1, bz_True, bz_False, zor_i, zand_i, zxor_i, zandn_i, zandn_i2, zbit_i, ib_i, nB0, nB1, nBz, fk_T, fk_F, fk_pos, fk_neg, fk_same, fk_not, fk_and, fk_andn, fk_nand, fk_or, fkP10, fkP01, fkP0z, fkPz0, fkP1z, fkPz1]
    exact kk h' v1 v2 (fun x y hx hy => by rw [v3 x y hx hy]; exact if_pos hx.2)
theorem nxN_no {n : Int} (q : nxN W P n t w) (hp : ¬ P n) : nxN W P (n + 1) t w := by
  refine ⟨fun l s c b g l0 l1 hl he hs hb => ?_, fun s b hs hb => ?_⟩
  · by_cases z : l = n
    · subst z; exact absurd hl hp
    · exact q.1 l s c b g l0 (by omega) hl he hs hb
  · rcases q.2 s b hs hb with z | ⟨z, l, c, g, z1, z2⟩
    · exact Or.inl z
    · exact Or.inr ⟨z, l, c, g, by omega, z2⟩
theorem nxN_r (hO : LwO m W) {n U : Int} (q : nxN W P n t w) (hn : n ≤ m) (ht : ∀ x y, in6 x → in6 y → -1000000 ≤ t x y ∧ t x y ≤ U) (hU : 0 ≤ U) : ∀ x y, in6 x → in6 y → -1000000 ≤ w x y ∧ w x y ≤ U + 19 := fun x y hx hy => by
  rcases q.2 x y hx hy with z | ⟨z, l, c, g, z1, z2, z3, z4, z5⟩
  · omega
  · have := ht x c hx z4
    have o := hO.r z1.1 (by omega)
    have : g ≤ 19 := by rcases z3 with k | k <;> omega
    omega
/-- both directions of a LAW -/
theorem nxN_one {n : Int} (q : nxN W P n t w) (hp : P n) (h0 : 0 ≤ n) (i1 : in6 (W 1 n)) (hs : ¬ stf (W 0 n)) : nxN W P (n + 1) t (upT w t (W 1 n) (W 2 n) (W 3 n)) := by
  refine ⟨fun l s c b g l0 l1 hl he hs' hb => ?_, fun s b hs' hb => ?_⟩
  · by_cases z : l = n
    · subst z
      rcases he with ⟨rfl, rfl, rfl⟩ | ⟨k, _⟩
      · unfold upT; rw [if_pos rfl]; omega
      · exact absurd k hs
    · have := q.1 l s c b g l0 (by omega) hl he hs' hb
      unfold upT
      split <;> omega
  · have o := q.2 s b hs' hb
    have up : True → (w s b = -1000000 ∨ (-1000000 ≤ w s b ∧ ∃ l c g, (0 ≤ l ∧ l < n + 1) ∧ P l ∧ edg W l c b g ∧ in6 c ∧ w s b = t s c + g)) := fun _ => o.imp id (fun ⟨z, l, c, g, z1, z2⟩ => ⟨z, l, c, g, by omega, z2⟩)
    have lo : -1000000 ≤ w s b := by rcases o with z | ⟨z, _⟩ <;> omega
    clear o
    unfold upT
    by_cases z : b = W 2 n
    · rw [if_pos z]
      by_cases z2 : w s b < t s (W 1 n) + W 3 n
      · rw [show max (w s b) (t s (W 1 n) + W 3 n) = t s (W 1 n) + W 3 n by omega]
        exact Or.inr ⟨by omega, n, W 1 n, W 3 n, by omega, hp, Or.inl ⟨rfl, z, rfl⟩, i1, rfl⟩
      · rw [show max (w s b) (t s (W 1 n) + W 3 n) = w s b by omega]
        exact up trivial
    · rw [if_neg z]; exact up trivial
theorem nxN_two {n : Int} (q : nxN W P n t w) (hp : P n) (h0 : 0 ≤ n) (i1 : in6 (W 1 n)) (i2 : in6 (W 2 n)) (hne : ¬ W 1 n = W 2 n) (hs : stf (W 0 n)) : nxN W P (n + 1) t (upT (upT w t (W 1 n) (W 2 n) (W 3 n)) t (W 2 n) (W 1 n) (-(W 3 n))) := by
  refine ⟨fun l s c b g l0 l1 hl he hs' hb => ?_, fun s b hs' hb => ?_⟩
  · by_cases z : l = n
    · subst z
      rcases he with ⟨rfl, rfl, rfl⟩ | ⟨_, rfl, rfl, rfl⟩
      · unfold upT; rw [if_neg (by omega), if_pos rfl]; omega
      · unfold upT; rw [if_pos rfl, if_neg (by omega)]; omega
    · have := q.1 l s c b g l0 (by omega) hl he hs' hb
      unfold upT
      split <;> split <;> omega
  · have o := q.2 s b hs' hb
    have up : True → (w s b = -1000000 ∨ (-1000000 ≤ w s b ∧ ∃ l c g, (0 ≤ l ∧ l < n + 1) ∧ P l ∧ edg W l c b g ∧ in6 c ∧ w s b = t s c + g)) := fun _ => o.imp id (fun ⟨z, l, c, g, z1, z2⟩ => ⟨z, l, c, g, by omega, z2⟩)
    have lo : -1000000 ≤ w s b := by rcases o with z | ⟨z, _⟩ <;> omega
    clear o
    unfold upT
    by_cases z : b = W 1 n
    · have zn : ¬ b = W 2 n := by omega
      rw [if_pos z, if_neg zn]
      by_cases z2 : w s b < t s (W 2 n) + -(W 3 n)
      · rw [show max (w s b) (t s (W 2 n) + -(W 3 n)) = t s (W 2 n) + -(W 3 n) by omega]
        exact Or.inr ⟨by omega, n, W 2 n, -(W 3 n), by omega, hp, Or.inr ⟨hs, rfl, z, rfl⟩, i2, rfl⟩
      · rw [show max (w s b) (t s (W 2 n) + -(W 3 n)) = w s b by omega]
        exact up trivial
    · rw [if_neg z]
      by_cases z3 : b = W 2 n
      · rw [if_pos z3]
        by_cases z2 : w s b < t s (W 1 n) + W 3 n
        · rw [show max (w s b) (t s (W 1 n) + W 3 n) = t s (W 1 n) + W 3 n by omega]
          exact Or.inr ⟨by omega, n, W 1 n, W 3 n, by omega, hp, Or.inl ⟨rfl, z3, rfl⟩, i1, rfl⟩
        · rw [show max (w s b) (t s (W 1 n) + W 3 n) = w s b by omega]
          exact up trivial
      · rw [if_neg z3]; exact up trivial
end QUW
