/-! QUARRELS: the object's fewest -/
def TnR (W : Nat → Int → Int) (P : Int → Prop) (n : Nat) (t : Int → Int → Int) : Prop := (∀ ls a b x, ls.length = n → inL P ls → in6 a → in6 b → wlk W ls a b x → x ≤ t a b) ∧ (∀ a b, in6 a → in6 b → t a b ≤ -1000000 + 19 * n ∨ ∃ ls, ls.length = n ∧ inL P ls ∧ wlk W ls a b (t a b)) ∧ ∀ a b, in6 a → in6 b → -1000000 ≤ t a b ∧ t a b ≤ 19 * n
def iniQ (a b : Int) : Int := if a = b then 0 else -1000000
def shR (W : Nat → Int → Int) (m S pool : Int) (T : Prop) (k r : Int) : Prop := (r = 0 ∧ ∀ n, 1 ≤ n → n ≤ k → ¬ fwk W m S pool T n) ∨ ((1 ≤ r ∧ r ≤ k) ∧ fwk W m S pool T r ∧ ∀ n, 1 ≤ n → n < r → ¬ fwk W m S pool T n)
section QUF
variable {d : Nat} {h : aH} {post : Option Value → aH → Prop} {f g b : Nat} {t w : Int → Int → Int} {m pool S : Int} {W : Nat → Int → Int} {T : Prop} {P : Int → Prop}
theorem TnR_0 : TnR W P 0 iniQ := by
  refine ⟨fun ls a b x hl hp ha hb hw => ?_, fun a b ha hb => ?_, fun a b ha hb => ?_⟩
  · rw [List.length_eq_zero_iff] at hl
    subst hl
    obtain ⟨rfl, rfl⟩ := hw
    unfold iniQ; rw [if_pos rfl]; exact Int.le_refl _
  · by_cases c : a = b
    · exact Or.inr ⟨[], rfl, (fun _ h => by cases h), c, by unfold iniQ; rw [if_pos c]⟩
    · exact Or.inl (by unfold iniQ; rw [if_neg c]; omega)
  · unfold iniQ; split <;> omega
theorem TnR_succ (hO : LwO m W) {n : Nat} (q : TnR W (axP W m pool T) n t) {Q : Int → Prop} (hQ : ∀ l, 0 ≤ l → l < m → (Q l ↔ axP W m pool T l)) (nx : nxN W Q m t w) : TnR W (axP W m pool T) (n + 1) w := by
  refine ⟨fun ls a b x hl hp ha hb hw => ?_, fun a b ha hb => ?_, fun a b ha hb => ?_⟩
  · cases ls with
    | nil => simp at hl
    | cons s ls =>
      obtain ⟨e, e1, e2⟩ := hw
      obtain ⟨p1, p2⟩ := inL_cons.mp hp
      have i := axP_in hO p1
      have hc : in6 s.2 := by
        rcases e1 with z | z
        · rw [z.1]; exact i.1
        · rw [z.2.1]; exact i.2
      have := q.1 ls a s.2 (x - e) (by simp at hl; exact hl) p2 ha hc e2
      have := nx.1 s.1 a s.2 b e p1.1.1 p1.1.2 ((hQ _ p1.1.1 p1.1.2).mpr p1) e1 ha hb
      omega
  · rcases nx.2 a b ha hb with z | ⟨_, l, c, e, z1, z2, z3, z4, z5⟩
    · exact Or.inl (by omega)
    · have p1 := (hQ l z1.1 z1.2).mp z2
      have o := hO.r z1.1 z1.2
      have e19 : e ≤ 19 := by rcases z3 with k | k <;> omega
      rcases q.2.1 a c ha z4 with y | ⟨ls, y1, y2, y3⟩
      · exact Or.inl (by omega)
      · refine Or.inr ⟨(l, c) :: ls, by rw [List.length_cons, y1], inL_cons.mpr ⟨p1, y2⟩, e, z3, ?_⟩
        rw [z5, show t a c + e - e = t a c by omega]; exact y3
  · rcases nx.2 a b ha hb with z | ⟨z0, l, c, e, z1, z2, z3, z4, z5⟩
    · omega
    · have := q.2.2 a c ha z4
      have o := hO.r z1.1 z1.2
      have e19 : e ≤ 19 := by rcases z3 with k | k <;> omega
      omega
theorem TnR_far (hO : LwO m W) (hS : 2 ≤ S) {n : Nat} (h1 : 1 ≤ n) (h6 : n ≤ 6) (q : TnR W (axP W m pool T) n t) : (∃ a b, in6 a ∧ in6 b ∧ farS S a b (t a b)) ↔ fwk W m S pool T n := by
  constructor
  · rintro ⟨a, b, ha, hb, hf⟩
    rcases q.2.1 a b ha hb with z | ⟨ls, z1, z2, z3⟩
    · exfalso
      unfold farS at hf
      omega
    · exact ⟨ls, a, b, _, by rw [z1], z2, z3, hf⟩
  · rintro ⟨ls, a, b, x, k1, k2, k3, k4⟩
    obtain ⟨ha, hb⟩ := wlk_in6 hO k2 k3 (fun e => by rw [e] at k1; simp at k1; omega)
    have := q.1 ls a b x (by omega) k2 ha hb k3
    refine ⟨a, b, ha, hb, ?_⟩
    unfold farS at *
    omega
theorem c_Quarrels_shortest (hL : Lay h) (hW : LwC h b m W) (hO : LwO m W) (hS : 2 ≤ S ∧ S ≤ 20) {k : Int} (hk : 1 ≤ k ∧ k ≤ 6) (kk : ∀ h' r, Lay h' → Fr 47 50 h h' → shR W m S pool T k r → post (some (.int (I r))) h') : R (d + 2) 0 0 74 0 [.ref 47, .ref b, .int (I (bset (fun x => ib pool x ∧ (tal (W 0 x) ↔ T)) m.toNat)), .int (I S), .int (I k), .null] [] h post := by
  have hb3 := b1003 hW
  have hbb := hW.1
  have hm := hO.1
  have p0 := bset_lt12 (P := fun x => ib pool x ∧ (tal (W 0 x) ↔ T)) hm
  have hQ : ∀ l, 0 ≤ l → l < m → (ib (bset (fun x => ib pool x ∧ (tal (W 0 x) ↔ T)) m.toNat) l ↔ axP W m pool T l) := fun l l0 l1 => by
    rw [ib_bs l0 (by omega)]
    exact ⟨fun z => ⟨⟨l0, l1⟩, z⟩, fun z => z.2⟩
  generalize hp : bset (fun x => ib pool x ∧ (tal (W 0 x) ↔ T)) m.toNat = pl at *
  by_cases c0 : pl = 0
  · simp (disch := (first | assumption | omega | exact zor_0 | exact zand_0 | exact zandn_0 | exact zbit_0 | exact zxor_0 | exact (bz_01 _).1 | (repeat (first | assumption | refine Lay.sF ?_ rfl | refine Lay.sA ?_ (by decide) | refine Lay.iall ?_ (by decide) | refine Lay.sL ?_ | refine Lay.sFL ?_ (by decide))))) only [e74_0, e74_1, e74_4, e74_5, e74_6, e74_7, e74_11, e74_13, e74_16, e74_17, e74_20, e74_22, e74_24, e74_26, e74_27, e74_30, e74_31, e74_34, e74_36, e74_37, e74_40, e74_43, e74_44, e74_48, e74_50, e74_53, e74_54, e74_55, e74_56, e74_59, e74_60, e74_61, e74_64, e74_67, e74_69, e74_70, e74_73, e74_76, e74_77, ne_eq, not_false_eq_true, true_and, and_true, reduceCtorEq, Nat.reduceEqDiff, Nat.reduceAdd, Nat.reduceSub, Nat.reduceLeDiff, Nat.reduceLT, Int.reduceEq, Int.reduceLT, Int.reduceLE, Int.reduceNeg, Int.reduceAdd, Int.reduceSub, Int.reduceMul, Int.reduceToNat, Int.cast_ofNat_Int, Int.natCast_zero, Nat.le_refl, Nat.zero_le, if_true, if_false, ite_true, ite_false, and_self, and_false, false_and, or_true, true_or, or_false, false_or, not_true_eq_false, Classical.not_not, not_or, Int.not_lt, Int.not_le, a_clr, Option.toList_some, Option.toList_none, List.cons_append, List.nil_append, a_cw, List.map_cons, List.map_nil, List.sum_cons, List.sum_nil, Value.category, nar_b0, nar_b1, sh_sa, sh_sf, sh_sl, sh_sfl, a_sh_iall, a_fv_iall, fv_sa, fv_sl, fv_sf_eq, fv_sf_ne, fv_sfl_eq, fv_sfl_ne, ga_sf, ga_sl, ga_sfl, ga_sa_ne, ga_sa, ga_iall_ne, gf_sa, gf_iall, gf_sl, gf_sfl, gf_sf_ne, gf_sf_eq, gl_sa, gl_iall, gl_sf, gl_sl_ne, gl_sl, gfl_sa, gfl_iall, gfl_sl, gfl_sf, gfl_sfl_ne, gfl_sfl_eq, ld_a, ld_0, ld_1, ld_2, st_a, st_0, st_f, ld_l, st_l, st_fl, sa_sa, sf_sf, sfl_sfl, k_max, k_far, k_no, zadd, zsub, zmul, zneg, zmax, zmin, zabs, zltI, zleI, zeqI, zlt0I, zle0I, z0ltI, z0leI, zeq0I, ti_ga, ti_gf, ti_bz, ztoInt, zinT, zix, bz_eq0, bz_eq1, bz_e0, bz_e1, bz_eqb, bz_or1, bz_True, bz_False, zor_i, zand_i, zxor_i, zandn_i, zandn_i2, zbit_i, ib_i, nB0, nB1, nBz, fk_T, fk_F, fk_pos, fk_neg, fk_same, fk_not, fk_and, fk_andn, fk_nand, fk_or, fkP10, fkP01, fkP0z, fkPz0, fkP1z, fkPz1, c0]
    refine kk h 0 hL Fr.id (Or.inl ⟨rfl, fun n n1 n2 z => ?_⟩)
    obtain ⟨ls, a, b, x, k1, k2, k3, k4⟩ := z
    cases ls with
    | nil => simp at k1; omega
    | cons s ls =>
      have p1 := (inL_cons.mp k2).1
      have := (hQ _ p1.1.1 p1.1.2).mpr p1
      rw [c0, ib_0] at this
      exact this
  · have key : ∀ r n : Nat, 1 ≤ n → (n : Int) + r = k + 1 → ∀ h1 f g t, Lay h1 → Fr 47 50 h h1 → qPt h1 f g → FT h1 f t → TnR W (axP W m pool T) (n - 1) t → (∀ j : Int, 1 ≤ j → j < n → ¬ fwk W m S pool T j) → R (d + 2) 0 0 74 46 [.ref 47, .ref b, .int (I pl), .int (I S), .int (I k), .int (I n)] [] h1 post := by
      intro r
      induction r with
      | zero =>
        intro n n1 hn h1 f g t a1 a2 a3 a4 a5 a6
        have e : k < (n : Int) := by omega
        rw [e74_46]
        simp (disch := (first | assumption | omega | exact zor_0 | exact zand_0 | exact zandn_0 | exact zbit_0 | exact zxor_0 | exact (bz_01 _).1 | (repeat (first | assumption | refine Lay.sF ?_ rfl | refine Lay.sA ?_ (by decide) | refine Lay.iall ?_ (by decide) | refine Lay.sL ?_ | refine Lay.sFL ?_ (by decide))))) only [e74_0, e74_1, e74_4, e74_5, e74_6, e74_7, e74_11, e74_13, e74_16, e74_17, e74_20, e74_22, e74_24, e74_26, e74_27, e74_30, e74_31, e74_34, e74_36, e74_37, e74_40, e74_43, e74_44, e74_48, e74_50, e74_53, e74_54, e74_55, e74_56, e74_59, e74_60, e74_61, e74_64, e74_67, e74_69, e74_70, e74_73, e74_76, e74_77, ne_eq, not_false_eq_true, true_and, and_true, reduceCtorEq, Nat.reduceEqDiff, Nat.reduceAdd, Nat.reduceSub, Nat.reduceLeDiff, Nat.reduceLT, Int.reduceEq, Int.reduceLT, Int.reduceLE, Int.reduceNeg, Int.reduceAdd, Int.reduceSub, Int.reduceMul, Int.reduceToNat, Int.cast_ofNat_Int, Int.natCast_zero, Nat.le_refl, Nat.zero_le, if_true, if_false, ite_true, ite_false, and_self, and_false, false_and, or_true, true_or, or_false, false_or, not_true_eq_false, Classical.not_not, not_or, Int.not_lt, Int.not_le, a_clr, Option.toList_some, Option.toList_none, List.cons_append, List.nil_append, a_cw, List.map_cons, List.map_nil, List.sum_cons, List.sum_nil, Value.category, nar_b0, nar_b1, sh_sa, sh_sf, sh_sl, sh_sfl, a_sh_iall, a_fv_iall, fv_sa, fv_sl, fv_sf_eq, fv_sf_ne, fv_sfl_eq, fv_sfl_ne, ga_sf, ga_sl, ga_sfl, ga_sa_ne, ga_sa, ga_iall_ne, gf_sa, gf_iall, gf_sl, gf_sfl, gf_sf_ne, gf_sf_eq, gl_sa, gl_iall, gl_sf, gl_sl_ne, gl_sl, gfl_sa, gfl_iall, gfl_sl, gfl_sf, gfl_sfl_ne, gfl_sfl_eq, ld_a, ld_0, ld_1, ld_2, st_a, st_0, st_f, ld_l, st_l, st_fl, sa_sa, sf_sf, sfl_sfl, k_max, k_far, k_no, zadd, zsub, zmul, zneg, zmax, zmin, zabs, zltI, zleI, zeqI, zlt0I, zle0I, z0ltI, z0leI, zeq0I, ti_ga, ti_gf, ti_bz, ztoInt, zinT, zix, bz_eq0, bz_eq1, bz_e0, bz_e1, bz_eqb, bz_or1, bz_True, bz_False, zor_i, zand_i, zxor_i, zandn_i, zandn_i2, zbit_i, ib_i, nB0, nB1, nBz, fk_T, fk_F, fk_pos, fk_neg, fk_same, fk_not, fk_and, fk_andn, fk_nand, fk_or, fkP10, fkP01, fkP0z, fkPz0, fkP1z, fkPz1, e]
        exact kk h1 0 a1 a2 (Or.inl ⟨rfl, fun j j1 j2 => a6 j j1 (by omega)⟩)
      | succ r ih =>
        intro n n1 hn h1 f g t a1 a2 a3 a4 a5 a6
        have e : ¬ k < (n : Int) := by omega
        have hW1 := hW.fr a2 (by omega)
        have sh := a3.sh a1
        have ih := ih (n + 1) (by omega) (by omega)
        rw [show ((n + 1 : Nat) : Int) = (n : Int) + 1 by omega, show n + 1 - 1 = n by omega] at ih
        rw [e74_46]
        simp (disch := (first | assumption | omega | exact zor_0 | exact zand_0 | exact zandn_0 | exact zbit_0 | exact zxor_0 | exact (bz_01 _).1 | (repeat (first | assumption | refine Lay.sF ?_ rfl | refine Lay.sA ?_ (by decide) | refine Lay.iall ?_ (by decide) | refine Lay.sL ?_ | refine Lay.sFL ?_ (by decide))))) only [e74_0, e74_1, e74_4, e74_5, e74_6, e74_7, e74_11, e74_13, e74_16, e74_17, e74_20, e74_22, e74_24, e74_26, e74_27, e74_30, e74_31, e74_34, e74_36, e74_37, e74_40, e74_43, e74_44, e74_48, e74_50, e74_53, e74_54, e74_55, e74_56, e74_59, e74_60, e74_61, e74_64, e74_67, e74_69, e74_70, e74_73, e74_76, e74_77, ne_eq, not_false_eq_true, true_and, and_true, reduceCtorEq, Nat.reduceEqDiff, Nat.reduceAdd, Nat.reduceSub, Nat.reduceLeDiff, Nat.reduceLT, Int.reduceEq, Int.reduceLT, Int.reduceLE, Int.reduceNeg, Int.reduceAdd, Int.reduceSub, Int.reduceMul, Int.reduceToNat, Int.cast_ofNat_Int, Int.natCast_zero, Nat.le_refl, Nat.zero_le, if_true, if_false, ite_true, ite_false, and_self, and_false, false_and, or_true, true_or, or_false, false_or, not_true_eq_false, Classical.not_not, not_or, Int.not_lt, Int.not_le, a_clr, Option.toList_some, Option.toList_none, List.cons_append, List.nil_append, a_cw, List.map_cons, List.map_nil, List.sum_cons, List.sum_nil, Value.category, nar_b0, nar_b1, sh_sa, sh_sf, sh_sl, sh_sfl, a_sh_iall, a_fv_iall, fv_sa, fv_sl, fv_sf_eq, fv_sf_ne, fv_sfl_eq, fv_sfl_ne, ga_sf, ga_sl, ga_sfl, ga_sa_ne, ga_sa, ga_iall_ne, gf_sa, gf_iall, gf_sl, gf_sfl, gf_sf_ne, gf_sf_eq, gl_sa, gl_iall, gl_sf, gl_sl_ne, gl_sl, gfl_sa, gfl_iall, gfl_sl, gfl_sf, gfl_sfl_ne, gfl_sfl_eq, ld_a, ld_0, ld_1, ld_2, st_a, st_0, st_f, ld_l, st_l, st_fl, sa_sa, sf_sf, sfl_sfl, k_max, k_far, k_no, zadd, zsub, zmul, zneg, zmax, zmin, zabs, zltI, zleI, zeqI, zlt0I, zle0I, z0ltI, z0leI, zeq0I, ti_ga, ti_gf, ti_bz, ztoInt, zinT, zix, bz_eq0, bz_eq1, bz_e0, bz_e1, bz_eqb, bz_or1, bz_True, bz_False, zor_i, zand_i, zxor_i, zandn_i, zandn_i2, zbit_i, ib_i, nB0, nB1, nBz, fk_T, fk_F, fk_pos, fk_neg, fk_same, fk_not, fk_and, fk_andn, fk_nand, fk_or, fkP10, fkP01, fkP0z, fkPz0, fkP1z, fkPz1, e, sh.1, hb3]
        refine c_Quarrels_goOn a1 a3 a4 hW1 hO p0 (U := 19 * ((n - 1 : Nat) : Int)) (by omega) a5.2.2 (fun h2 w b1 b2 b3 b4 b5 => ?_)
        have tn := TnR_succ hO a5 hQ b5
        rw [show n - 1 + 1 = n by omega] at tn
        have sh2 := b3.sh b1
        have fi := TnR_far (S := S) hO hS.1 n1 (by omega) tn
        by_cases c1 : fwk W m S pool T n
        · have c2 := fi.mpr c1
          simp (disch := (first | assumption | omega | exact zor_0 | exact zand_0 | exact zandn_0 | exact zbit_0 | exact zxor_0 | exact (bz_01 _).1 | (repeat (first | assumption | refine Lay.sF ?_ rfl | refine Lay.sA ?_ (by decide) | refine Lay.iall ?_ (by decide) | refine Lay.sL ?_ | refine Lay.sFL ?_ (by decide))))) only [e74_0, e74_1, e74_4, e74_5, e74_6, e74_7, e74_11, e74_13, e74_16, e74_17, e74_20, e74_22, e74_24, e74_26, e74_27, e74_30, e74_31, e74_34, e74_36, e74_37, e74_40, e74_43, e74_44, e74_48, e74_50, e74_53, e74_54, e74_55, e74_56, e74_59, e74_60, e74_61, e74_64, e74_67, e74_69, e74_70, e74_73, e74_76, e74_77, ne_eq, not_false_eq_true, true_and, and_true, reduceCtorEq, Nat.reduceEqDiff, Nat.reduceAdd, Nat.reduceSub, Nat.reduceLeDiff, Nat.reduceLT, Int.reduceEq, Int.reduceLT, Int.reduceLE, Int.reduceNeg, Int.reduceAdd, Int.reduceSub, Int.reduceMul, Int.reduceToNat, Int.cast_ofNat_Int, Int.natCast_zero, Nat.le_refl, Nat.zero_le, if_true, if_false, ite_true, ite_false, and_self, and_false, false_and, or_true, true_or, or_false, false_or, not_true_eq_false, Classical.not_not, not_or, Int.not_lt, Int.not_le, a_clr, Option.toList_some, Option.toList_none, List.cons_append, List.nil_append, a_cw, List.map_cons, List.map_nil, List.sum_cons, List.sum_nil, Value.category, nar_b0, nar_b1, sh_sa, sh_sf, sh_sl, sh_sfl, a_sh_iall, a_fv_iall, fv_sa, fv_sl, fv_sf_eq, fv_sf_ne, fv_sfl_eq, fv_sfl_ne, ga_sf, ga_sl, ga_sfl, ga_sa_ne, ga_sa, ga_iall_ne, gf_sa, gf_iall, gf_sl, gf_sfl, gf_sf_ne, gf_sf_eq, gl_sa, gl_iall, gl_sf, gl_sl_ne, gl_sl, gfl_sa, gfl_iall, gfl_sl, gfl_sf, gfl_sfl_ne, gfl_sfl_eq, ld_a, ld_0, ld_1, ld_2, st_a, st_0, st_f, ld_l, st_l, st_fl, sa_sa, sf_sf, sfl_sfl, k_max, k_far, k_no, zadd, zsub, zmul, zneg, zmax, zmin, zabs, zltI, zleI, zeqI, zlt0I, zle0I, z0ltI, z0leI, zeq0I, ti_ga, ti_gf, ti_bz, ztoInt, zinT, zix, bz_eq0, bz_eq1, bz_e0, bz_e1, bz_eqb, bz_or1, bz_True, bz_False, zor_i, zand_i, zxor_i, zandn_i, zandn_i2, zbit_i, ib_i, nB0, nB1, nBz, fk_T, fk_F, fk_pos, fk_neg, fk_same, fk_not, fk_and, fk_andn, fk_nand, fk_or, fkP10, fkP01, fkP0z, fkPz0, fkP1z, fkPz1, sh2.1, q_Quarrels_isTooFar b1 b3 b4 hS, c2]
          exact kk h2 n b1 (a2.trans b2) (Or.inr ⟨by omega, c1, a6⟩)
        · have c2 := fun z => c1 (fi.mp z)
          simp (disch := (first | assumption | omega | exact zor_0 | exact zand_0 | exact zandn_0 | exact zbit_0 | exact zxor_0 | exact (bz_01 _).1 | (repeat (first | assumption | refine Lay.sF ?_ rfl | refine Lay.sA ?_ (by decide) | refine Lay.iall ?_ (by decide) | refine Lay.sL ?_ | refine Lay.sFL ?_ (by decide))))) only [e74_0, e74_1, e74_4, e74_5, e74_6, e74_7, e74_11, e74_13, e74_16, e74_17, e74_20, e74_22, e74_24, e74_26, e74_27, e74_30, e74_31, e74_34, e74_36, e74_37, e74_40, e74_43, e74_44, e74_48, e74_50, e74_53, e74_54, e74_55, e74_56, e74_59, e74_60, e74_61, e74_64, e74_67, e74_69, e74_70, e74_73, e74_76, e74_77, ne_eq, not_false_eq_true, true_and, and_true, reduceCtorEq, Nat.reduceEqDiff, Nat.reduceAdd, Nat.reduceSub, Nat.reduceLeDiff, Nat.reduceLT, Int.reduceEq, Int.reduceLT, Int.reduceLE, Int.reduceNeg, Int.reduceAdd, Int.reduceSub, Int.reduceMul, Int.reduceToNat, Int.cast_ofNat_Int, Int.natCast_zero, Nat.le_refl, Nat.zero_le, if_true, if_false, ite_true, ite_false, and_self, and_false, false_and, or_true, true_or, or_false, false_or, not_true_eq_false, Classical.not_not, not_or, Int.not_lt, Int.not_le, a_clr, Option.toList_some, Option.toList_none, List.cons_append, List.nil_append, a_cw, List.map_cons, List.map_nil, List.sum_cons, List.sum_nil, Value.category, nar_b0, nar_b1, sh_sa, sh_sf, sh_sl, sh_sfl, a_sh_iall, a_fv_iall, fv_sa, fv_sl, fv_sf_eq, fv_sf_ne, fv_sfl_eq, fv_sfl_ne, ga_sf, ga_sl, ga_sfl, ga_sa_ne, ga_sa, ga_iall_ne, gf_sa, gf_iall, gf_sl, gf_sfl, gf_sf_ne, gf_sf_eq, gl_sa, gl_iall, gl_sf, gl_sl_ne, gl_sl, gfl_sa, gfl_iall, gfl_sl, gfl_sf, gfl_sfl_ne, gfl_sfl_eq, ld_a, ld_0, ld_1, ld_2, st_a, st_0, st_f, ld_l, st_l, st_fl, sa_sa, sf_sf, sfl_sfl, k_max, k_far, k_no, zadd, zsub, zmul, zneg, zmax, zmin, zabs, zltI, zleI, zeqI, zlt0I, zle0I, z0ltI, z0leI, zeq0I, ti_ga, ti_gf, ti_bz, ztoInt, zinT, zix, bz_eq0, bz_eq1, bz_e0, bz_e1, bz_eqb, bz_or1, bz_True, bz_False, zor_i, zand_i, zxor_i, zandn_i, zandn_i2, zbit_i, ib_i, nB0, nB1, nBz, fk_T, fk_F, fk_pos, fk_neg, fk_same, fk_not, fk_and, fk_andn, fk_nand, fk_or, fkP10, fkP01, fkP0z, fkPz0, fkP1z, fkPz1, sh2.1, q_Quarrels_isTooFar b1 b3 b4 hS, c2]
          refine ih h2 g f w b1 (a2.trans b2) b3 b4 tn (fun j j1 j2 => ?_)
          by_cases z : j = n
          · rw [z]; exact c1
          · exact a6 j j1 (by omega)
    have qe : ∃ f g : Nat, qPt h f g := layFar hL
    obtain ⟨f, g, q⟩ := qe
    have f4 : f = 48 ∨ f = 49 := by have := q.1; omega
    simp (disch := (first | assumption | omega | exact zor_0 | exact zand_0 | exact zandn_0 | exact zbit_0 | exact zxor_0 | exact (bz_01 _).1 | (repeat (first | assumption | refine Lay.sF ?_ rfl | refine Lay.sA ?_ (by decide) | refine Lay.iall ?_ (by decide) | refine Lay.sL ?_ | refine Lay.sFL ?_ (by decide))))) only [e74_0, e74_1, e74_4, e74_5, e74_6, e74_7, e74_11, e74_13, e74_16, e74_17, e74_20, e74_22, e74_24, e74_26, e74_27, e74_30, e74_31, e74_34, e74_36, e74_37, e74_40, e74_43, e74_44, e74_48, e74_50, e74_53, e74_54, e74_55, e74_56, e74_59, e74_60, e74_61, e74_64, e74_67, e74_69, e74_70, e74_73, e74_76, e74_77, ne_eq, not_false_eq_true, true_and, and_true, reduceCtorEq, Nat.reduceEqDiff, Nat.reduceAdd, Nat.reduceSub, Nat.reduceLeDiff, Nat.reduceLT, Int.reduceEq, Int.reduceLT, Int.reduceLE, Int.reduceNeg, Int.reduceAdd, Int.reduceSub, Int.reduceMul, Int.reduceToNat, Int.cast_ofNat_Int, Int.natCast_zero, Nat.le_refl, Nat.zero_le, if_true, if_false, ite_true, ite_false, and_self, and_false, false_and, or_true, true_or, or_false, false_or, not_true_eq_false, Classical.not_not, not_or, Int.not_lt, Int.not_le, a_clr, Option.toList_some, Option.toList_none, List.cons_append, List.nil_append, a_cw, List.map_cons, List.map_nil, List.sum_cons, List.sum_nil, Value.category, nar_b0, nar_b1, sh_sa, sh_sf, sh_sl, sh_sfl, a_sh_iall, a_fv_iall, fv_sa, fv_sl, fv_sf_eq, fv_sf_ne, fv_sfl_eq, fv_sfl_ne, ga_sf, ga_sl, ga_sfl, ga_sa_ne, ga_sa, ga_iall_ne, gf_sa, gf_iall, gf_sl, gf_sfl, gf_sf_ne, gf_sf_eq, gl_sa, gl_iall, gl_sf, gl_sl_ne, gl_sl, gfl_sa, gfl_iall, gfl_sl, gfl_sf, gfl_sfl_ne, gfl_sfl_eq, ld_a, ld_0, ld_1, ld_2, st_a, st_0, st_f, ld_l, st_l, st_fl, sa_sa, sf_sf, sfl_sfl, k_max, k_far, k_no, zadd, zsub, zmul, zneg, zmax, zmin, zabs, zltI, zleI, zeqI, zlt0I, zle0I, z0ltI, z0leI, zeq0I, ti_ga, ti_gf, ti_bz, ztoInt, zinT, zix, bz_eq0, bz_eq1, bz_e0, bz_e1, bz_eqb, bz_or1, bz_True, bz_False, zor_i, zand_i, zxor_i, zandn_i, zandn_i2, zbit_i, ib_i, nB0, nB1, nBz, fk_T, fk_F, fk_pos, fk_neg, fk_same, fk_not, fk_and, fk_andn, fk_nand, fk_or, fkP10, fkP01, fkP0z, fkPz0, fkP1z, fkPz1, c0]
    refine R_forJ (J := Unit) (fun n _ => [.ref 47, .ref b, .int (I pl), .int (I S), .int (I k), .int (I n)]) (fun n h' => Lay h' ∧ Fr f (f + 1) h h' ∧ ∀ j : Int, 0 ≤ j → j < n → ga h' f j = if j % 7 = 0 then 0 else -1000000) 36 (fun n _ h' hn hV ih => ?_) (fun _ h' hV => ?_) () h ⟨hL, Fr.id, fun j j0 j1 => by omega⟩
    · obtain ⟨v1, v2, v3⟩ := hV
      have sh := (q.fr v2 (by omega)).sh v1
      have r7 := rem7z (i := (n : Int)) (by omega) (by omega)
      have nx : ∀ z, z = (if (n : Int) % 7 = 0 then 0 else -1000000) → -2147483648 ≤ z ∧ z < 2147483648 → ∀ j : Int, 0 ≤ j → j < ((n + 1 : Nat) : Int) → ga (sa h' f n z) f j = if j % 7 = 0 then 0 else -1000000 := by
        intro z hz hr j j0 j1
        rw [ga_sa (by omega) (by omega) (by omega) (by omega)]
        by_cases y : j = n
        · rw [if_pos y, y, hz]
        · rw [if_neg y]; exact v3 j j0 (by omega)
      rw [e74_9]
      by_cases c : (n : Int) % 7 = 0
      · simp (disch := (first | assumption | omega | exact zor_0 | exact zand_0 | exact zandn_0 | exact zbit_0 | exact zxor_0 | exact (bz_01 _).1 | (repeat (first | assumption | refine Lay.sF ?_ rfl | refine Lay.sA ?_ (by decide) | refine Lay.iall ?_ (by decide) | refine Lay.sL ?_ | refine Lay.sFL ?_ (by decide))))) only [e74_0, e74_1, e74_4, e74_5, e74_6, e74_7, e74_11, e74_13, e74_16, e74_17, e74_20, e74_22, e74_24, e74_26, e74_27, e74_30, e74_31, e74_34, e74_36, e74_37, e74_40, e74_43, e74_44, e74_48, e74_50, e74_53, e74_54, e74_55, e74_56, e74_59, e74_60, e74_61, e74_64, e74_67, e74_69, e74_70, e74_73, e74_76, e74_77, ne_eq, not_false_eq_true, true_and, and_true, reduceCtorEq, Nat.reduceEqDiff, Nat.reduceAdd, Nat.reduceSub, Nat.reduceLeDiff, Nat.reduceLT, Int.reduceEq, Int.reduceLT, Int.reduceLE, Int.reduceNeg, Int.reduceAdd, Int.reduceSub, Int.reduceMul, Int.reduceToNat, Int.cast_ofNat_Int, Int.natCast_zero, Nat.le_refl, Nat.zero_le, if_true, if_false, ite_true, ite_false, and_self, and_false, false_and, or_true, true_or, or_false, false_or, not_true_eq_false, Classical.not_not, not_or, Int.not_lt, Int.not_le, a_clr, Option.toList_some, Option.toList_none, List.cons_append, List.nil_append, a_cw, List.map_cons, List.map_nil, List.sum_cons, List.sum_nil, Value.category, nar_b0, nar_b1, sh_sa, sh_sf, sh_sl, sh_sfl, a_sh_iall, a_fv_iall, fv_sa, fv_sl, fv_sf_eq, fv_sf_ne, fv_sfl_eq, fv_sfl_ne, ga_sf, ga_sl, ga_sfl, ga_sa_ne, ga_sa, ga_iall_ne, gf_sa, gf_iall, gf_sl, gf_sfl, gf_sf_ne, gf_sf_eq, gl_sa, gl_iall, gl_sf, gl_sl_ne, gl_sl, gfl_sa, gfl_iall, gfl_sl, gfl_sf, gfl_sfl_ne, gfl_sfl_eq, ld_a, ld_0, ld_1, ld_2, st_a, st_0, st_f, ld_l, st_l, st_fl, sa_sa, sf_sf, sfl_sfl, k_max, k_far, k_no, zadd, zsub, zmul, zneg, zmax, zmin, zabs, zltI, zleI, zeqI, zlt0I, zle0I, z0ltI, z0leI, zeq0I, ti_ga, ti_gf, ti_bz, ztoInt, zinT, zix, bz_eq0, bz_eq1, bz_e0, bz_e1, bz_eqb, bz_or1, bz_True, bz_False, zor_i, zand_i, zxor_i, zandn_i, zandn_i2, zbit_i, ib_i, nB0, nB1, nBz, fk_T, fk_F, fk_pos, fk_neg, fk_same, fk_not, fk_and, fk_andn, fk_nand, fk_or, fkP10, fkP01, fkP0z, fkPz0, fkP1z, fkPz1, sh, r7, c]
        exact ih () _ ⟨v1.sA (by omega), v2.sA (by omega), nx _ (by rw [if_pos c]) (by omega)⟩
      · simp (disch := (first | assumption | omega | exact zor_0 | exact zand_0 | exact zandn_0 | exact zbit_0 | exact zxor_0 | exact (bz_01 _).1 | (repeat (first | assumption | refine Lay.sF ?_ rfl | refine Lay.sA ?_ (by decide) | refine Lay.iall ?_ (by decide) | refine Lay.sL ?_ | refine Lay.sFL ?_ (by decide))))) only [e74_0, e74_1, e74_4, e74_5, e74_6, e74_7, e74_11, e74_13, e74_16, e74_17, e74_20, e74_22, e74_24, e74_26, e74_27, e74_30, e74_31, e74_34, e74_36, e74_37, e74_40, e74_43, e74_44, e74_48, e74_50, e74_53, e74_54, e74_55, e74_56, e74_59, e74_60, e74_61, e74_64, e74_67, e74_69, e74_70, e74_73, e74_76, e74_77, ne_eq, not_false_eq_true, true_and, and_true, reduceCtorEq, Nat.reduceEqDiff, Nat.reduceAdd, Nat.reduceSub, Nat.reduceLeDiff, Nat.reduceLT, Int.reduceEq, Int.reduceLT, Int.reduceLE, Int.reduceNeg, Int.reduceAdd, Int.reduceSub, Int.reduceMul, Int.reduceToNat, Int.cast_ofNat_Int, Int.natCast_zero, Nat.le_refl, Nat.zero_le, if_true, if_false, ite_true, ite_false, and_self, and_false, false_and, or_true, true_or, or_false, false_or, not_true_eq_false, Classical.not_not, not_or, Int.not_lt, Int.not_le, a_clr, Option.toList_some, Option.toList_none, List.cons_append, List.nil_append, a_cw, List.map_cons, List.map_nil, List.sum_cons, List.sum_nil, Value.category, nar_b0, nar_b1, sh_sa, sh_sf, sh_sl, sh_sfl, a_sh_iall, a_fv_iall, fv_sa, fv_sl, fv_sf_eq, fv_sf_ne, fv_sfl_eq, fv_sfl_ne, ga_sf, ga_sl, ga_sfl, ga_sa_ne, ga_sa, ga_iall_ne, gf_sa, gf_iall, gf_sl, gf_sfl, gf_sf_ne, gf_sf_eq, gl_sa, gl_iall, gl_sf, gl_sl_ne, gl_sl, gfl_sa, gfl_iall, gfl_sl, gfl_sf, gfl_sfl_ne, gfl_sfl_eq, ld_a, ld_0, ld_1, ld_2, st_a, st_0, st_f, ld_l, st_l, st_fl, sa_sa, sf_sf, sfl_sfl, k_max, k_far, k_no, zadd, zsub, zmul, zneg, zmax, zmin, zabs, zltI, zleI, zeqI, zlt0I, zle0I, z0ltI, z0leI, zeq0I, ti_ga, ti_gf, ti_bz, ztoInt, zinT, zix, bz_eq0, bz_eq1, bz_e0, bz_e1, bz_eqb, bz_or1, bz_True, bz_False, zor_i, zand_i, zxor_i, zandn_i, zandn_i2, zbit_i, ib_i, nB0, nB1, nBz, fk_T, fk_F, fk_pos, fk_neg, fk_same, fk_not, fk_and, fk_andn, fk_nand, fk_or, fkP10, fkP01, fkP0z, fkPz0, fkP1z, fkPz1, sh, r7, c]
        exact ih () _ ⟨v1.sA (by omega), v2.sA (by omega), nx _ (by rw [if_neg c]) (by omega)⟩
    · obtain ⟨v1, v2, v3⟩ := hV
      rw [e74_9]
      simp (disch := (first | assumption | omega | exact zor_0 | exact zand_0 | exact zandn_0 | exact zbit_0 | exact zxor_0 | exact (bz_01 _).1 | (repeat (first | assumption | refine Lay.sF ?_ rfl | refine Lay.sA ?_ (by decide) | refine Lay.iall ?_ (by decide) | refine Lay.sL ?_ | refine Lay.sFL ?_ (by decide))))) only [e74_0, e74_1, e74_4, e74_5, e74_6, e74_7, e74_11, e74_13, e74_16, e74_17, e74_20, e74_22, e74_24, e74_26, e74_27, e74_30, e74_31, e74_34, e74_36, e74_37, e74_40, e74_43, e74_44, e74_48, e74_50, e74_53, e74_54, e74_55, e74_56, e74_59, e74_60, e74_61, e74_64, e74_67, e74_69, e74_70, e74_73, e74_76, e74_77, ne_eq, not_false_eq_true, true_and, and_true, reduceCtorEq, Nat.reduceEqDiff, Nat.reduceAdd, Nat.reduceSub, Nat.reduceLeDiff, Nat.reduceLT, Int.reduceEq, Int.reduceLT, Int.reduceLE, Int.reduceNeg, Int.reduceAdd, Int.reduceSub, Int.reduceMul, Int.reduceToNat, Int.cast_ofNat_Int, Int.natCast_zero, Nat.le_refl, Nat.zero_le, if_true, if_false, ite_true, ite_false, and_self, and_false, false_and, or_true, true_or, or_false, false_or, not_true_eq_false, Classical.not_not, not_or, Int.not_lt, Int.not_le, a_clr, Option.toList_some, Option.toList_none, List.cons_append, List.nil_append, a_cw, List.map_cons, List.map_nil, List.sum_cons, List.sum_nil, Value.category, nar_b0, nar_b1, sh_sa, sh_sf, sh_sl, sh_sfl, a_sh_iall, a_fv_iall, fv_sa, fv_sl, fv_sf_eq, fv_sf_ne, fv_sfl_eq, fv_sfl_ne, ga_sf, ga_sl, ga_sfl, ga_sa_ne, ga_sa, ga_iall_ne, gf_sa, gf_iall, gf_sl, gf_sfl, gf_sf_ne, gf_sf_eq, gl_sa, gl_iall, gl_sf, gl_sl_ne, gl_sl, gfl_sa, gfl_iall, gfl_sl, gfl_sf, gfl_sfl_ne, gfl_sfl_eq, ld_a, ld_0, ld_1, ld_2, st_a, st_0, st_f, ld_l, st_l, st_fl, sa_sa, sf_sf, sfl_sfl, k_max, k_far, k_no, zadd, zsub, zmul, zneg, zmax, zmin, zabs, zltI, zleI, zeqI, zlt0I, zle0I, z0ltI, z0leI, zeq0I, ti_ga, ti_gf, ti_bz, ztoInt, zinT, zix, bz_eq0, bz_eq1, bz_e0, bz_e1, bz_eqb, bz_or1, bz_True, bz_False, zor_i, zand_i, zxor_i, zandn_i, zandn_i2, zbit_i, ib_i, nB0, nB1, nBz, fk_T, fk_F, fk_pos, fk_neg, fk_same, fk_not, fk_and, fk_andn, fk_nand, fk_or, fkP10, fkP01, fkP0z, fkPz0, fkP1z, fkPz1]
      refine key k.toNat 1 (by omega) (by omega) h' f g iniQ v1 (v2.mono (by omega) (by omega)) (q.fr v2 (by omega)) (fun a b ha hb => ?_) TnR_0 (fun j j1 j2 => by omega)
      unfold in6 at ha hb
      rw [v3 _ (by omega) (by omega)]
      unfold iniQ
      by_cases z : a = b
      · rw [if_pos (by omega), if_pos z]
      · rw [if_neg (by omega), if_neg z]
theorem fewR_of {k a e : Int} (hk : 1 ≤ k) (ha : shR W m S pool False k a) (he : shR W m S pool True (if a = 0 then k else a) e) : fewR W m S pool k (if e = 0 then a else e) := by
  unfold shR at *
  by_cases a0 : a = 0
  · rw [if_pos a0] at he
    have na : ∀ n, 1 ≤ n → n ≤ k → ¬ fwk W m S pool False n := by
      rcases ha with z | z
      · exact z.2
      · omega
    rcases he with ⟨z1, z2⟩ | ⟨z1, z2, z3⟩
    · rw [if_pos z1, a0]
      exact Or.inl ⟨rfl, fun n n1 n2 y => y.elim (na n n1 n2) (z2 n n1 n2)⟩
    · rw [if_neg (by omega)]
      exact Or.inr ⟨z1, Or.inr z2, fun n n1 n2 y => y.elim (na n n1 (by omega)) (z3 n n1 n2)⟩
  · rw [if_neg a0] at he
    rcases ha with z | ⟨y1, y2, y3⟩
    · exact absurd z.1 a0
    · rcases he with ⟨z1, z2⟩ | ⟨z1, z2, z3⟩
      · rw [if_pos z1]
        exact Or.inr ⟨y1, Or.inl y2, fun n n1 n2 y => y.elim (y3 n n1 n2) (z2 n n1 (by omega))⟩
      · rw [if_neg (by omega)]
        exact Or.inr ⟨by omega, Or.inr z2, fun n n1 n2 y => y.elim (y3 n n1 (by omega)) (z3 n n1 n2)⟩
theorem c_Quarrels_fewest (hL : Lay h) (hW : LwC h b m W) (hO : LwO m W) (hS : 2 ≤ S ∧ S ≤ 20) {k : Int} (hk : 1 ≤ k ∧ k ≤ 6) (hp : pool = bset (ib pool) m.toNat) (kk : ∀ h' r, Lay h' → Fr 47 50 h h' → fewR W m S pool k r → post (some (.int (I r))) h') : R (d + 3) 0 0 72 0 [.ref 47, .ref b, .int (I pool), .int (I S), .int (I k), .null, .null] [] h post := by
  have hb3 := b1003 hW
  have hbb := hW.1
  have o0 := fun d post => q_Laws_ofAxis (d := d) (post := post) hL hW (A := False) (T := False) (P := ib pool) Iff.rfl
  simp only [bz_False, ← hp] at o0
  simp (disch := (first | assumption | omega | exact zor_0 | exact zand_0 | exact zandn_0 | exact zbit_0 | exact zxor_0 | exact (bz_01 _).1 | (repeat (first | assumption | refine Lay.sF ?_ rfl | refine Lay.sA ?_ (by decide) | refine Lay.iall ?_ (by decide) | refine Lay.sL ?_ | refine Lay.sFL ?_ (by decide))))) only [e72_0, e72_1, e72_2, e72_3, e72_4, e72_5, e72_8, e72_9, e72_11, e72_14, e72_16, e72_17, e72_18, e72_19, e72_20, e72_21, e72_24, e72_25, e72_27, e72_30, e72_32, e72_35, e72_37, e72_40, e72_42, e72_44, e72_47, e72_49, e72_52, e72_54, ne_eq, not_false_eq_true, true_and, and_true, reduceCtorEq, Nat.reduceEqDiff, Nat.reduceAdd, Nat.reduceSub, Nat.reduceLeDiff, Nat.reduceLT, Int.reduceEq, Int.reduceLT, Int.reduceLE, Int.reduceNeg, Int.reduceAdd, Int.reduceSub, Int.reduceMul, Int.reduceToNat, Int.cast_ofNat_Int, Int.natCast_zero, Nat.le_refl, Nat.zero_le, if_true, if_false, ite_true, ite_false, and_self, and_false, false_and, or_true, true_or, or_false, false_or, not_true_eq_false, Classical.not_not, not_or, Int.not_lt, Int.not_le, a_clr, Option.toList_some, Option.toList_none, List.cons_append, List.nil_append, a_cw, List.map_cons, List.map_nil, List.sum_cons, List.sum_nil, Value.category, nar_b0, nar_b1, sh_sa, sh_sf, sh_sl, sh_sfl, a_sh_iall, a_fv_iall, fv_sa, fv_sl, fv_sf_eq, fv_sf_ne, fv_sfl_eq, fv_sfl_ne, ga_sf, ga_sl, ga_sfl, ga_sa_ne, ga_sa, ga_iall_ne, gf_sa, gf_iall, gf_sl, gf_sfl, gf_sf_ne, gf_sf_eq, gl_sa, gl_iall, gl_sf, gl_sl_ne, gl_sl, gfl_sa, gfl_iall, gfl_sl, gfl_sf, gfl_sfl_ne, gfl_sfl_eq, ld_a, ld_0, ld_1, ld_2, st_a, st_0, st_f, ld_l, st_l, st_fl, sa_sa, sf_sf, sfl_sfl, k_max, k_far, k_no, zadd, zsub, zmul, zneg, zmax, zmin, zabs, zltI, zleI, zeqI, zlt0I, zle0I, z0ltI, z0leI, zeq0I, ti_ga, ti_gf, ti_bz, ztoInt, zinT, zix, bz_eq0, bz_eq1, bz_e0, bz_e1, bz_eqb, bz_or1, bz_True, bz_False, zor_i, zand_i, zxor_i, zandn_i, zandn_i2, zbit_i, ib_i, nB0, nB1, nBz, fk_T, fk_F, fk_pos, fk_neg, fk_same, fk_not, fk_and, fk_andn, fk_nand, fk_or, fkP10, fkP01, fkP0z, fkPz0, fkP1z, fkPz1, (layQ hL).1, (layLaws hL hbb).1, hb3, o0]
  refine c_Quarrels_shortest (pool := pool) (T := False) hL hW hO hS hk (fun h1 a a1 a2 a3 => ?_)
  have hW1 := hW.fr a2 (by omega)
  have o1 := fun d post => q_Laws_ofAxis (d := d) (post := post) a1 hW1 (A := True) (T := True) (P := ib pool) Iff.rfl
  simp only [bz_True, ← hp] at o1
  have ar : 0 ≤ a ∧ a ≤ k := by unfold shR at a3; omega
  have fin : ∀ e h2, Lay h2 → Fr 47 50 h h2 → shR W m S pool True (if a = 0 then k else a) e → R (d + 3) 0 0 72 40 [.ref 47, .ref b, .int (I pool), .int (I S), .int (I k), .int (I a), .null] [.int (I e)] h2 post := by
    intro e h2 b1 b2 b3
    have kk := kk h2 _ b1 b2 (fewR_of hk.1 a3 b3)
    have er : 0 ≤ e ∧ e ≤ 6 := by
      unfold shR at b3
      by_cases z : a = 0
      · rw [if_pos z] at b3; omega
      · rw [if_neg z] at b3; omega
    by_cases e0 : e = 0
    · rw [if_pos e0] at kk
      simp (disch := (first | assumption | omega | exact zor_0 | exact zand_0 | exact zandn_0 | exact zbit_0 | exact zxor_0 | exact (bz_01 _).1 | (repeat (first | assumption | refine Lay.sF ?_ rfl | refine Lay.sA ?_ (by decide) | refine Lay.iall ?_ (by decide) | refine Lay.sL ?_ | refine Lay.sFL ?_ (by decide))))) only [e72_0, e72_1, e72_2, e72_3, e72_4, e72_5, e72_8, e72_9, e72_11, e72_14, e72_16, e72_17, e72_18, e72_19, e72_20, e72_21, e72_24, e72_25, e72_27, e72_30, e72_32, e72_35, e72_37, e72_40, e72_42, e72_44, e72_47, e72_49, e72_52, e72_54, ne_eq, not_false_eq_true, true_and, and_true, reduceCtorEq, Nat.reduceEqDiff, Nat.reduceAdd, Nat.reduceSub, Nat.reduceLeDiff, Nat.reduceLT, Int.reduceEq, Int.reduceLT, Int.reduceLE, Int.reduceNeg, Int.reduceAdd, Int.reduceSub, Int.reduceMul, Int.reduceToNat, Int.cast_ofNat_Int, Int.natCast_zero, Nat.le_refl, Nat.zero_le, if_true, if_false, ite_true, ite_false, and_self, and_false, false_and, or_true, true_or, or_false, false_or, not_true_eq_false, Classical.not_not, not_or, Int.not_lt, Int.not_le, a_clr, Option.toList_some, Option.toList_none, List.cons_append, List.nil_append, a_cw, List.map_cons, List.map_nil, List.sum_cons, List.sum_nil, Value.category, nar_b0, nar_b1, sh_sa, sh_sf, sh_sl, sh_sfl, a_sh_iall, a_fv_iall, fv_sa, fv_sl, fv_sf_eq, fv_sf_ne, fv_sfl_eq, fv_sfl_ne, ga_sf, ga_sl, ga_sfl, ga_sa_ne, ga_sa, ga_iall_ne, gf_sa, gf_iall, gf_sl, gf_sfl, gf_sf_ne, gf_sf_eq, gl_sa, gl_iall, gl_sf, gl_sl_ne, gl_sl, gfl_sa, gfl_iall, gfl_sl, gfl_sf, gfl_sfl_ne, gfl_sfl_eq, ld_a, ld_0, ld_1, ld_2, st_a, st_0, st_f, ld_l, st_l, st_fl, sa_sa, sf_sf, sfl_sfl, k_max, k_far, k_no, zadd, zsub, zmul, zneg, zmax, zmin, zabs, zltI, zleI, zeqI, zlt0I, zle0I, z0ltI, z0leI, zeq0I, ti_ga, ti_gf, ti_bz, ztoInt, zinT, zix, bz_eq0, bz_eq1, bz_e0, bz_e1, bz_eqb, bz_or1, bz_True, bz_False, zor_i, zand_i, zxor_i, zandn_i, zandn_i2, zbit_i, ib_i, nB0, nB1, nBz, fk_T, fk_F, fk_pos, fk_neg, fk_same, fk_not, fk_and, fk_andn, fk_nand, fk_or, fkP10, fkP01, fkP0z, fkPz0, fkP1z, fkPz1, e0]
      exact kk
    · rw [if_neg e0] at kk
      simp (disch := (first | assumption | omega | exact zor_0 | exact zand_0 | exact zandn_0 | exact zbit_0 | exact zxor_0 | exact (bz_01 _).1 | (repeat (first | assumption | refine Lay.sF ?_ rfl | refine Lay.sA ?_ (by decide) | refine Lay.iall ?_ (by decide) | refine Lay.sL ?_ | refine Lay.sFL ?_ (by decide))))) only [e72_0, e72_1, e72_2, e72_3, e72_4, e72_5, e72_8, e72_9, e72_11, e72_14, e72_16, e72_17, e72_18, e72_19, e72_20, e72_21, e72_24, e72_25, e72_27, e72_30, e72_32, e72_35, e72_37, e72_40, e72_42, e72_44, e72_47, e72_49, e72_52, e72_54, ne_eq, not_false_eq_true, true_and, and_true, reduceCtorEq, Nat.reduceEqDiff, Nat.reduceAdd, Nat.reduceSub, Nat.reduceLeDiff, Nat.reduceLT, Int.reduceEq, Int.reduceLT, Int.reduceLE, Int.reduceNeg, Int.reduceAdd, Int.reduceSub, Int.reduceMul, Int.reduceToNat, Int.cast_ofNat_Int, Int.natCast_zero, Nat.le_refl, Nat.zero_le, if_true, if_false, ite_true, ite_false, and_self, and_false, false_and, or_true, true_or, or_false, false_or, not_true_eq_false, Classical.not_not, not_or, Int.not_lt, Int.not_le, a_clr, Option.toList_some, Option.toList_none, List.cons_append, List.nil_append, a_cw, List.map_cons, List.map_nil, List.sum_cons, List.sum_nil, Value.category, nar_b0, nar_b1, sh_sa, sh_sf, sh_sl, sh_sfl, a_sh_iall, a_fv_iall, fv_sa, fv_sl, fv_sf_eq, fv_sf_ne, fv_sfl_eq, fv_sfl_ne, ga_sf, ga_sl, ga_sfl, ga_sa_ne, ga_sa, ga_iall_ne, gf_sa, gf_iall, gf_sl, gf_sfl, gf_sf_ne, gf_sf_eq, gl_sa, gl_iall, gl_sf, gl_sl_ne, gl_sl, gfl_sa, gfl_iall, gfl_sl, gfl_sf, gfl_sfl_ne, gfl_sfl_eq, ld_a, ld_0, ld_1, ld_2, st_a, st_0, st_f, ld_l, st_l, st_fl, sa_sa, sf_sf, sfl_sfl, k_max, k_far, k_no, zadd, zsub, zmul, zneg, zmax, zmin, zabs, zltI, zleI, zeqI, zlt0I, zle0I, z0ltI, z0leI, zeq0I, ti_ga, ti_gf, ti_bz, ztoInt, zinT, zix, bz_eq0, bz_eq1, bz_e0, bz_e1, bz_eqb, bz_or1, bz_True, bz_False, zor_i, zand_i, zxor_i, zandn_i, zandn_i2, zbit_i, ib_i, nB0, nB1, nBz, fk_T, fk_F, fk_pos, fk_neg, fk_same, fk_not, fk_and, fk_andn, fk_nand, fk_or, fkP10, fkP01, fkP0z, fkPz0, fkP1z, fkPz1, e0]
      exact kk
  by_cases a0 : a = 0
  · rw [if_pos a0] at fin
    simp (disch := (first | assumption | omega | exact zor_0 | exact zand_0 | exact zandn_0 | exact zbit_0 | exact zxor_0 | exact (bz_01 _).1 | (repeat (first | assumption | refine Lay.sF ?_ rfl | refine Lay.sA ?_ (by decide) | refine Lay.iall ?_ (by decide) | refine Lay.sL ?_ | refine Lay.sFL ?_ (by decide))))) only [e72_0, e72_1, e72_2, e72_3, e72_4, e72_5, e72_8, e72_9, e72_11, e72_14, e72_16, e72_17, e72_18, e72_19, e72_20, e72_21, e72_24, e72_25, e72_27, e72_30, e72_32, e72_35, e72_37, e72_42, e72_44, e72_47, e72_49, e72_52, e72_54, ne_eq, not_false_eq_true, true_and, and_true, reduceCtorEq, Nat.reduceEqDiff, Nat.reduceAdd, Nat.reduceSub, Nat.reduceLeDiff, Nat.reduceLT, Int.reduceEq, Int.reduceLT, Int.reduceLE, Int.reduceNeg, Int.reduceAdd, Int.reduceSub, Int.reduceMul, Int.reduceToNat, Int.cast_ofNat_Int, Int.natCast_zero, Nat.le_refl, Nat.zero_le, if_true, if_false, ite_true, ite_false, and_self, and_false, false_and, or_true, true_or, or_false, false_or, not_true_eq_false, Classical.not_not, not_or, Int.not_lt, Int.not_le, a_clr, Option.toList_some, Option.toList_none, List.cons_append, List.nil_append, a_cw, List.map_cons, List.map_nil, List.sum_cons, List.sum_nil, Value.category, nar_b0, nar_b1, sh_sa, sh_sf, sh_sl, sh_sfl, a_sh_iall, a_fv_iall, fv_sa, fv_sl, fv_sf_eq, fv_sf_ne, fv_sfl_eq, fv_sfl_ne, ga_sf, ga_sl, ga_sfl, ga_sa_ne, ga_sa, ga_iall_ne, gf_sa, gf_iall, gf_sl, gf_sfl, gf_sf_ne, gf_sf_eq, gl_sa, gl_iall, gl_sf, gl_sl_ne, gl_sl, gfl_sa, gfl_iall, gfl_sl, gfl_sf, gfl_sfl_ne, gfl_sfl_eq, ld_a, ld_0, ld_1, ld_2, st_a, st_0, st_f, ld_l, st_l, st_fl, sa_sa, sf_sf, sfl_sfl, k_max, k_far, k_no, zadd, zsub, zmul, zneg, zmax, zmin, zabs, zltI, zleI, zeqI, zlt0I, zle0I, z0ltI, z0leI, zeq0I, ti_ga, ti_gf, ti_bz, ztoInt, zinT, zix, bz_eq0, bz_eq1, bz_e0, bz_e1, bz_eqb, bz_or1, bz_True, bz_False, zor_i, zand_i, zxor_i, zandn_i, zandn_i2, zbit_i, ib_i, nB0, nB1, nBz, fk_T, fk_F, fk_pos, fk_neg, fk_same, fk_not, fk_and, fk_andn, fk_nand, fk_or, fkP10, fkP01, fkP0z, fkPz0, fkP1z, fkPz1, (layQ a1).1, (layLaws a1 hbb).1, hb3, o1, a0]
    refine c_Quarrels_shortest (pool := pool) (T := True) a1 hW1 hO hS hk (fun h2 e b1 b2 b3 => ?_)
    have := fin e h2 b1 (a2.trans b2) b3
    rw [a0] at this
    exact this
  · rw [if_neg a0] at fin
    simp (disch := (first | assumption | omega | exact zor_0 | exact zand_0 | exact zandn_0 | exact zbit_0 | exact zxor_0 | exact (bz_01 _).1 | (repeat (first | assumption | refine Lay.sF ?_ rfl | refine Lay.sA ?_ (by decide) | refine Lay.iall ?_ (by decide) | refine Lay.sL ?_ | refine Lay.sFL ?_ (by decide))))) only [e72_0, e72_1, e72_2, e72_3, e72_4, e72_5, e72_8, e72_9, e72_11, e72_14, e72_16, e72_17, e72_18, e72_19, e72_20, e72_21, e72_24, e72_25, e72_27, e72_30, e72_32, e72_35, e72_37, e72_42, e72_44, e72_47, e72_49, e72_52, e72_54, ne_eq, not_false_eq_true, true_and, and_true, reduceCtorEq, Nat.reduceEqDiff, Nat.reduceAdd, Nat.reduceSub, Nat.reduceLeDiff, Nat.reduceLT, Int.reduceEq, Int.reduceLT, Int.reduceLE, Int.reduceNeg, Int.reduceAdd, Int.reduceSub, Int.reduceMul, Int.reduceToNat, Int.cast_ofNat_Int, Int.natCast_zero, Nat.le_refl, Nat.zero_le, if_true, if_false, ite_true, ite_false, and_self, and_false, false_and, or_true, true_or, or_false, false_or, not_true_eq_false, Classical.not_not, not_or, Int.not_lt, Int.not_le, a_clr, Option.toList_some, Option.toList_none, List.cons_append, List.nil_append, a_cw, List.map_cons, List.map_nil, List.sum_cons, List.sum_nil, Value.category, nar_b0, nar_b1, sh_sa, sh_sf, sh_sl, sh_sfl, a_sh_iall, a_fv_iall, fv_sa, fv_sl, fv_sf_eq, fv_sf_ne, fv_sfl_eq, fv_sfl_ne, ga_sf, ga_sl, ga_sfl, ga_sa_ne, ga_sa, ga_iall_ne, gf_sa, gf_iall, gf_sl, gf_sfl, gf_sf_ne, gf_sf_eq, gl_sa, gl_iall, gl_sf, gl_sl_ne, gl_sl, gfl_sa, gfl_iall, gfl_sl, gfl_sf, gfl_sfl_ne, gfl_sfl_eq, ld_a, ld_0, ld_1, ld_2, st_a, st_0, st_f, ld_l, st_l, st_fl, sa_sa, sf_sf, sfl_sfl, k_max, k_far, k_no, zadd, zsub, zmul, zneg, zmax, zmin, zabs, zltI, zleI, zeqI, zlt0I, zle0I, z0ltI, z0leI, zeq0I, ti_ga, ti_gf, ti_bz, ztoInt, zinT, zix, bz_eq0, bz_eq1, bz_e0, bz_e1, bz_eqb, bz_or1, bz_True, bz_False, zor_i, zand_i, zxor_i, zandn_i, zandn_i2, zbit_i, ib_i, nB0, nB1, nBz, fk_T, fk_F, fk_pos, fk_neg, fk_same, fk_not, fk_and, fk_andn, fk_nand, fk_or, fkP10, fkP01, fkP0z, fkPz0, fkP1z, fkPz1, (layQ a1).1, (layLaws a1 hbb).1, hb3, o1, a0]
    exact c_Quarrels_shortest (pool := pool) (T := True) a1 hW1 hO hS (by omega) (fun h2 e b1 b2 b3 => fin e h2 b1 (a2.trans b2) b3)
end QUF
