/-! sets as sums; searches; Story: both; the reference's Story -/
noncomputable def bset (Q : Int → Prop) : Nat → Int
  | 0 => 0
  | n + 1 => cif (Q n) (zor (bset Q n) (zbit n)) (bset Q n)
section BSET
variable {Q P : Int → Prop} {n : Nat}
theorem bset_0 : ∀ n : Nat, 0 ≤ bset Q n := by
  intro n
  induction n with
  | zero => exact Int.le_refl 0
  | succ n ih =>
    simp only [bset]
    by_cases e : Q n
    · rw [cif_pos e]; exact zor_0
    · rw [cif_neg e]; exact ih
theorem ib_bset : ∀ {n : Nat} {p : Int}, 0 ≤ p → (ib (bset Q n) p ↔ p < n ∧ Q p) := by
  intro n
  induction n with
  | zero => intro p hp; simp only [bset, ib_0, false_iff]; omega
  | succ n ih =>
    intro p hp
    simp only [bset]
    by_cases e : Q n
    · rw [cif_pos e, ib_zor, ib_zbit (by omega) hp, ih hp]
      constructor
      · rintro (q | q)
        · exact ⟨by omega, q.2⟩
        · exact ⟨by omega, q ▸ e⟩
      · intro q
        by_cases z : p = n
        · exact Or.inr z
        · exact Or.inl ⟨by omega, q.2⟩
    · rw [cif_neg e, ih hp]
      constructor
      · exact fun q => ⟨by omega, q.2⟩
      · intro q
        have : p ≠ n := fun z => e (z ▸ q.2)
        exact ⟨by omega, q.2⟩
theorem bset_lt : bset Q n < 2 ^ n := (ib_lt (bset_0 n)).mpr (fun k hk => by rw [ib_bset (by omega)]; omega)
theorem bset_eq {v : Int} (hv : 0 ≤ v) (h : ∀ p : Int, 0 ≤ p → (ib v p ↔ p < n ∧ Q p)) : v = bset Q n := ib_ext hv (bset_0 n) (fun p hp => by rw [h p hp, ib_bset hp])
theorem bset_congr (h : ∀ p : Int, 0 ≤ p → p < n → (P p ↔ Q p)) : bset P n = bset Q n := bset_eq (bset_0 n) (fun p hp => by
  rw [ib_bset hp]
  exact ⟨fun q => ⟨q.1, (h p hp q.1).mp q.2⟩, fun q => ⟨q.1, (h p hp q.1).mpr q.2⟩⟩)
theorem zor_z {v : Int} (hv : 0 ≤ v) : zor v 0 = v := by
  obtain ⟨n, rfl⟩ := Int.eq_ofNat_of_zero_le hv
  simp [zor]
end BSET
theorem tn1 (n : Nat) : ((n : Int) + 1).toNat = n + 1 := by omega
/-- loops that end early, or run to their end; J: what is of no account -/
theorem R_srch {J : Type} {d ce sl y pc : Nat} {h : aH} {post : Option Value → aH → Prop} {A B : Prop} (lv : Int → J → List Value) (P : Int → Prop) (lo n : Int) (hn : lo ≤ n) (step : ∀ i j X, lo ≤ i → i < n → (∀ j', R d ce sl y pc (lv (i + 1) j') [] h post = X) → R d ce sl y pc (lv i j) [] h post = fk (P i) A X) (last : ∀ j, R d ce sl y pc (lv n j) [] h post = B) (j : J) : R d ce sl y pc (lv lo j) [] h post = fk (∃ q : Int, lo ≤ q ∧ q < n ∧ P q) A B := by
  have key : ∀ m : Nat, ∀ i : Int, lo ≤ i → i + m = n → ∀ j, R d ce sl y pc (lv i j) [] h post = fk (∃ q : Int, i ≤ q ∧ q < n ∧ P q) A B := by
    intro m
    induction m with
    | zero =>
      intro i h0 hi j
      obtain rfl : i = n := by omega
      rw [last j, fk_neg]
      rintro ⟨q, h1, h2, _⟩; omega
    | succ m ih =>
      intro i h0 hi j
      rw [step i j _ h0 (by omega) (ih (i + 1) (by omega) (by omega)), fk_or]
      congr 1
      refine propext ⟨?_, ?_⟩
      · rintro (q | ⟨q, h1, h2, h3⟩)
        · exact ⟨i, by omega, by omega, q⟩
        · exact ⟨q, by omega, h2, h3⟩
      · rintro ⟨q, h1, h2, h3⟩
        by_cases e : q = i
        · exact Or.inl (e ▸ h3)
        · exact Or.inr ⟨q, by omega, h2, h3⟩
  exact key (n - lo).toNat lo (by omega) (by omega) j
theorem R_cnt {J : Type} {d ce sl y pc : Nat} {h : aH} {post : Option Value → aH → Prop} {B : Prop} (lv : Int → J → List Value) (n : Nat) (step : ∀ (i : Nat) j X, i < n → (∀ j', R d ce sl y pc (lv ((i : Int) + 1) j') [] h post = X) → R d ce sl y pc (lv (i : Int) j) [] h post = X) (last : ∀ j, R d ce sl y pc (lv (n : Int) j) [] h post = B) (j : J) : R d ce sl y pc (lv 0 j) [] h post = B := by
  have key : ∀ m i : Nat, i + m = n → ∀ j, R d ce sl y pc (lv (i : Int) j) [] h post = B := by
    intro m
    induction m with
    | zero =>
      intro i hi j
      obtain rfl : i = n := by omega
      exact last j
    | succ m ih => intro i hi j; exact step i j _ (by omega) (ih (i + 1) (by omega))
  exact key n 0 (by omega) j
theorem R_forJ {J : Type} {d ce sl y pc : Nat} {post : Option Value → aH → Prop} (lv : Int → J → List Value) (V : Nat → aH → Prop) (n : Nat) (step : ∀ (i : Nat) j h', i < n → V i h' → (∀ j' h2, V (i + 1) h2 → R d ce sl y pc (lv ((i : Int) + 1) j') [] h2 post) → R d ce sl y pc (lv (i : Int) j) [] h' post) (last : ∀ j h', V n h' → R d ce sl y pc (lv (n : Int) j) [] h' post) : ∀ j h', V 0 h' → R d ce sl y pc (lv 0 j) [] h' post := by
  have key : ∀ m i : Nat, i + m = n → ∀ j h', V i h' → R d ce sl y pc (lv (i : Int) j) [] h' post := by
    intro m
    induction m with
    | zero => intro i hi j h' hV; obtain rfl : i = n := by omega
              exact last j h' hV
    | succ m ih => intro i hi j h' hV; exact step i j h' (by omega) hV (fun j' h2 hV2 => ih (i + 1) (by omega) j' h2 hV2)
  exact key n 0 (by omega)
/-- a MOVE that stands for a HAND -/
def smv (k : Int) (S : Nat → Int → Int) (seen : Int → Int64) (i c : Int) : Prop := S 1 c = 0 ∧ lb (seen i) c ∧ ¬ undone k S seen i 60 c
def dbl (k : Int) (S : Nat → Int → Int) (seen saw : Int → Int64) (i c : Int) : Prop := smv k S seen i c ∧ ∃ j, 0 ≤ j ∧ j < c ∧ ¬ lb (saw c) j ∧ S 2 j = S 2 c ∧ ¬ S 0 j = S 0 c ∧ smv k S seen i j
def bothS (k : Int) (S : Nat → Int → Int) (seen saw : Int → Int64) (i p : Int) : Prop := ∃ c, 0 ≤ c ∧ c < k ∧ dbl k S seen saw i c ∧ S 2 c = p
section BOTH
variable {d : Nat} {h : aH} {post : Option Value → aH → Prop} {k mk : Int} {S : Nat → Int → Int} {seen saw : Int → Int64} {bk lt : Int → Int}
theorem q_Story_isStandingMove (hL : Lay h) (hS : StC h k S seen saw mk bk lt) (hO : StO k S seen saw mk bk lt) {c i : Int} (hc : 0 ≤ c ∧ c < k) (hi : 0 ≤ i ∧ i < 3) : R (d + 3) 0 0 122 0 [.ref 3, .int (I c), .int (I i)] [] h post = post (some (.int (I (bz (smv k S seen i c))))) h := by
  have o := hO.r hc.1 hc.2
  have hun := undone_bk hO (i := i) (u := 60) hc
  simp (disch := (first | assumption | omega | exact zor_0 | exact zand_0 | exact zandn_0 | exact zbit_0 | exact zxor_0 | exact (bz_01 _).1 | (repeat (first | assumption | refine Lay.sF ?_ rfl | refine Lay.sA ?_ (by decide) | refine Lay.iall ?_ (by decide) | refine Lay.sL ?_ | refine Lay.sFL ?_ (by decide))))) only [e122_0, e122_1, e122_4, e122_5, e122_6, e122_9, e122_10, e122_11, e122_12, e122_15, e122_18, e122_19, e122_20, e122_21, e122_23, e122_26, e122_29, e122_30, e122_33, e122_34, ne_eq, not_false_eq_true, true_and, and_true, reduceCtorEq, Nat.reduceEqDiff, Nat.reduceAdd, Nat.reduceSub, Nat.reduceLeDiff, Nat.reduceLT, Int.reduceEq, Int.reduceLT, Int.reduceLE, Int.reduceNeg, Int.reduceAdd, Int.reduceSub, Int.reduceMul, Int.reduceToNat, Int.cast_ofNat_Int, Int.natCast_zero, Nat.le_refl, Nat.zero_le, if_true, if_false, ite_true, ite_false, and_self, and_false, false_and, or_true, true_or, or_false, false_or, not_true_eq_false, Classical.not_not, not_or, Int.not_lt, Int.not_le, a_clr, Option.toList_some, Option.toList_none, List.cons_append, List.nil_append, a_cw, List.map_cons, List.map_nil, List.sum_cons, List.sum_nil, Value.category, nar_b0, nar_b1, sh_sa, sh_sf, sh_sl, sh_sfl, a_sh_iall, a_fv_iall, fv_sa, fv_sl, fv_sf_eq, fv_sf_ne, fv_sfl_eq, fv_sfl_ne, ga_sf, ga_sl, ga_sfl, ga_sa_ne, ga_sa, ga_iall_ne, gf_sa, gf_iall, gf_sl, gf_sfl, gf_sf_ne, gf_sf_eq, gl_sa, gl_iall, gl_sf, gl_sl_ne, gl_sl, gfl_sa, gfl_iall, gfl_sl, gfl_sf, gfl_sfl_ne, gfl_sfl_eq, ld_a, ld_0, ld_1, ld_2, st_a, st_0, st_f, ld_l, st_l, st_fl, sa_sa, sf_sf, sfl_sfl, k_max, k_far, k_no, zadd, zsub, zmul, zneg, zmax, zmin, zabs, zltI, zleI, zeqI, zlt0I, zle0I, z0ltI, z0leI, zeq0I, ti_ga, ti_gf, ti_bz, ztoInt, zinT, zix, bz_eq0, bz_eq1, bz_e0, bz_e1, bz_eqb, bz_or1, bz_True, bz_False, zor_i, zand_i, zxor_i, zandn_i, zandn_i2, zbit_i, ib_i, nB0, nB1, nBz, fk_T, fk_F, fk_pos, fk_neg, fk_same, fk_not, fk_and, fk_andn, fk_nand, fk_or, fkP10, fkP01, fkP0z, fkPz0, fkP1z, fkPz1, layStory hL, hS.s1, hS.v, q_Story_isSeen hL, q_Story_isUndone hL hS hO, ← hun]
  rfl
theorem q_Story_meetsEarlier (hL : Lay h) (hS : StC h k S seen saw mk bk lt) (hO : StO k S seen saw mk bk lt) {c i : Int} (hc : 0 ≤ c ∧ c < k) (hi : 0 ≤ i ∧ i < 3) : R (d + 4) 0 0 121 0 [.ref 3, .int (I c), .int (I i), .null, .null] [] h post = post (some (.int (I (bz (∃ j, 0 ≤ j ∧ j < c ∧ ¬ lb (saw c) j ∧ S 2 j = S 2 c ∧ ¬ S 0 j = S 0 c ∧ smv k S seen i j))))) h := by
  have o := hO.r hc.1 hc.2
  simp (disch := (first | assumption | omega | exact zor_0 | exact zand_0 | exact zandn_0 | exact zbit_0 | exact zxor_0 | exact (bz_01 _).1 | (repeat (first | assumption | refine Lay.sF ?_ rfl | refine Lay.sA ?_ (by decide) | refine Lay.iall ?_ (by decide) | refine Lay.sL ?_ | refine Lay.sFL ?_ (by decide))))) only [e121_0, e121_1, e121_3, e121_4, e121_7, e121_8, e121_11, e121_12, e121_13, e121_14, e121_15, e121_16, e121_17, e121_18, e121_19, e121_22, e121_23, e121_26, e121_27, e121_29, e121_31, e121_34, e121_35, e121_38, e121_39, e121_40, e121_41, e121_44, e121_45, e121_46, e121_49, e121_50, e121_53, e121_54, e121_55, e121_56, e121_59, e121_60, e121_61, e121_64, e121_65, e121_66, e121_67, e121_70, e121_73, e121_74, e121_75, e121_78, e121_81, e121_82, ne_eq, not_false_eq_true, true_and, and_true, reduceCtorEq, Nat.reduceEqDiff, Nat.reduceAdd, Nat.reduceSub, Nat.reduceLeDiff, Nat.reduceLT, Int.reduceEq, Int.reduceLT, Int.reduceLE, Int.reduceNeg, Int.reduceAdd, Int.reduceSub, Int.reduceMul, Int.reduceToNat, Int.cast_ofNat_Int, Int.natCast_zero, Nat.le_refl, Nat.zero_le, if_true, if_false, ite_true, ite_false, and_self, and_false, false_and, or_true, true_or, or_false, false_or, not_true_eq_false, Classical.not_not, not_or, Int.not_lt, Int.not_le, a_clr, Option.toList_some, Option.toList_none, List.cons_append, List.nil_append, a_cw, List.map_cons, List.map_nil, List.sum_cons, List.sum_nil, Value.category, nar_b0, nar_b1, sh_sa, sh_sf, sh_sl, sh_sfl, a_sh_iall, a_fv_iall, fv_sa, fv_sl, fv_sf_eq, fv_sf_ne, fv_sfl_eq, fv_sfl_ne, ga_sf, ga_sl, ga_sfl, ga_sa_ne, ga_sa, ga_iall_ne, gf_sa, gf_iall, gf_sl, gf_sfl, gf_sf_ne, gf_sf_eq, gl_sa, gl_iall, gl_sf, gl_sl_ne, gl_sl, gfl_sa, gfl_iall, gfl_sl, gfl_sf, gfl_sfl_ne, gfl_sfl_eq, ld_a, ld_0, ld_1, ld_2, st_a, st_0, st_f, ld_l, st_l, st_fl, sa_sa, sf_sf, sfl_sfl, k_max, k_far, k_no, zadd, zsub, zmul, zneg, zmax, zmin, zabs, zltI, zleI, zeqI, zlt0I, zle0I, z0ltI, z0leI, zeq0I, ti_ga, ti_gf, ti_bz, ztoInt, zinT, zix, bz_eq0, bz_eq1, bz_e0, bz_e1, bz_eqb, bz_or1, bz_True, bz_False, zor_i, zand_i, zxor_i, zandn_i, zandn_i2, zbit_i, ib_i, nB0, nB1, nBz, fk_T, fk_F, fk_pos, fk_neg, fk_same, fk_not, fk_and, fk_andn, fk_nand, fk_or, fkP10, fkP01, fkP0z, fkPz0, fkP1z, fkPz1]
  rw [R_srch (fun n v => [.ref 3, .int (I c), .int (I i), .int (I n), v]) (fun j => ¬ lb (saw c) j ∧ S 2 j = S 2 c ∧ ¬ S 0 j = S 0 c ∧ smv k S seen i j) 0 c hc.1 (A := post (some (.int (I 1))) h) (B := post (some (.int (I 0))) h) (fun n v X h0 h1 ih => ?_) (fun v => ?_), fkP10]
  · have o2 := hO.r h0 (by omega)
    rw [e121_2]
    simp (disch := (first | assumption | omega | exact zor_0 | exact zand_0 | exact zandn_0 | exact zbit_0 | exact zxor_0 | exact (bz_01 _).1 | (repeat (first | assumption | refine Lay.sF ?_ rfl | refine Lay.sA ?_ (by decide) | refine Lay.iall ?_ (by decide) | refine Lay.sL ?_ | refine Lay.sFL ?_ (by decide))))) only [e121_0, e121_1, e121_3, e121_4, e121_7, e121_8, e121_11, e121_12, e121_13, e121_14, e121_15, e121_16, e121_17, e121_18, e121_19, e121_22, e121_23, e121_26, e121_27, e121_29, e121_31, e121_34, e121_35, e121_38, e121_39, e121_40, e121_41, e121_44, e121_45, e121_46, e121_49, e121_50, e121_53, e121_54, e121_55, e121_56, e121_59, e121_60, e121_61, e121_64, e121_65, e121_66, e121_67, e121_70, e121_73, e121_74, e121_75, e121_78, e121_81, e121_82, ne_eq, not_false_eq_true, true_and, and_true, reduceCtorEq, Nat.reduceEqDiff, Nat.reduceAdd, Nat.reduceSub, Nat.reduceLeDiff, Nat.reduceLT, Int.reduceEq, Int.reduceLT, Int.reduceLE, Int.reduceNeg, Int.reduceAdd, Int.reduceSub, Int.reduceMul, Int.reduceToNat, Int.cast_ofNat_Int, Int.natCast_zero, Nat.le_refl, Nat.zero_le, if_true, if_false, ite_true, ite_false, and_self, and_false, false_and, or_true, true_or, or_false, false_or, not_true_eq_false, Classical.not_not, not_or, Int.not_lt, Int.not_le, a_clr, Option.toList_some, Option.toList_none, List.cons_append, List.nil_append, a_cw, List.map_cons, List.map_nil, List.sum_cons, List.sum_nil, Value.category, nar_b0, nar_b1, sh_sa, sh_sf, sh_sl, sh_sfl, a_sh_iall, a_fv_iall, fv_sa, fv_sl, fv_sf_eq, fv_sf_ne, fv_sfl_eq, fv_sfl_ne, ga_sf, ga_sl, ga_sfl, ga_sa_ne, ga_sa, ga_iall_ne, gf_sa, gf_iall, gf_sl, gf_sfl, gf_sf_ne, gf_sf_eq, gl_sa, gl_iall, gl_sf, gl_sl_ne, gl_sl, gfl_sa, gfl_iall, gfl_sl, gfl_sf, gfl_sfl_ne, gfl_sfl_eq, ld_a, ld_0, ld_1, ld_2, st_a, st_0, st_f, ld_l, st_l, st_fl, sa_sa, sf_sf, sfl_sfl, k_max, k_far, k_no, zadd, zsub, zmul, zneg, zmax, zmin, zabs, zltI, zleI, zeqI, zlt0I, zle0I, z0ltI, z0leI, zeq0I, ti_ga, ti_gf, ti_bz, ztoInt, zinT, zix, bz_eq0, bz_eq1, bz_e0, bz_e1, bz_eqb, bz_or1, bz_True, bz_False, zor_i, zand_i, zxor_i, zandn_i, zandn_i2, zbit_i, ib_i, nB0, nB1, nBz, fk_T, fk_F, fk_pos, fk_neg, fk_same, fk_not, fk_and, fk_andn, fk_nand, fk_or, fkP10, fkP01, fkP0z, fkPz0, fkP1z, fkPz1, layStory hL, hS.s0, hS.s2, hS.w, lb_u0, q_Story_isStandingMove hL hS hO, ih]
  · rw [e121_2]
    simp (disch := (first | assumption | omega | exact zor_0 | exact zand_0 | exact zandn_0 | exact zbit_0 | exact zxor_0 | exact (bz_01 _).1 | (repeat (first | assumption | refine Lay.sF ?_ rfl | refine Lay.sA ?_ (by decide) | refine Lay.iall ?_ (by decide) | refine Lay.sL ?_ | refine Lay.sFL ?_ (by decide))))) only [e121_0, e121_1, e121_3, e121_4, e121_7, e121_8, e121_11, e121_12, e121_13, e121_14, e121_15, e121_16, e121_17, e121_18, e121_19, e121_22, e121_23, e121_26, e121_27, e121_29, e121_31, e121_34, e121_35, e121_38, e121_39, e121_40, e121_41, e121_44, e121_45, e121_46, e121_49, e121_50, e121_53, e121_54, e121_55, e121_56, e121_59, e121_60, e121_61, e121_64, e121_65, e121_66, e121_67, e121_70, e121_73, e121_74, e121_75, e121_78, e121_81, e121_82, ne_eq, not_false_eq_true, true_and, and_true, reduceCtorEq, Nat.reduceEqDiff, Nat.reduceAdd, Nat.reduceSub, Nat.reduceLeDiff, Nat.reduceLT, Int.reduceEq, Int.reduceLT, Int.reduceLE, Int.reduceNeg, Int.reduceAdd, Int.reduceSub, Int.reduceMul, Int.reduceToNat, Int.cast_ofNat_Int, Int.natCast_zero, Nat.le_refl, Nat.zero_le, if_true, if_false, ite_true, ite_false, and_self, and_false, false_and, or_true, true_or, or_false, false_or, not_true_eq_false, Classical.not_not, not_or, Int.not_lt, Int.not_le, a_clr, Option.toList_some, Option.toList_none, List.cons_append, List.nil_append, a_cw, List.map_cons, List.map_nil, List.sum_cons, List.sum_nil, Value.category, nar_b0, nar_b1, sh_sa, sh_sf, sh_sl, sh_sfl, a_sh_iall, a_fv_iall, fv_sa, fv_sl, fv_sf_eq, fv_sf_ne, fv_sfl_eq, fv_sfl_ne, ga_sf, ga_sl, ga_sfl, ga_sa_ne, ga_sa, ga_iall_ne, gf_sa, gf_iall, gf_sl, gf_sfl, gf_sf_ne, gf_sf_eq, gl_sa, gl_iall, gl_sf, gl_sl_ne, gl_sl, gfl_sa, gfl_iall, gfl_sl, gfl_sf, gfl_sfl_ne, gfl_sfl_eq, ld_a, ld_0, ld_1, ld_2, st_a, st_0, st_f, ld_l, st_l, st_fl, sa_sa, sf_sf, sfl_sfl, k_max, k_far, k_no, zadd, zsub, zmul, zneg, zmax, zmin, zabs, zltI, zleI, zeqI, zlt0I, zle0I, z0ltI, z0leI, zeq0I, ti_ga, ti_gf, ti_bz, ztoInt, zinT, zix, bz_eq0, bz_eq1, bz_e0, bz_e1, bz_eqb, bz_or1, bz_True, bz_False, zor_i, zand_i, zxor_i, zandn_i, zandn_i2, zbit_i, ib_i, nB0, nB1, nBz, fk_T, fk_F, fk_pos, fk_neg, fk_same, fk_not, fk_and, fk_andn, fk_nand, fk_or, fkP10, fkP01, fkP0z, fkPz0, fkP1z, fkPz1]
end BOTH
