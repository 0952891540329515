/-! gaps: what is asked between every two POINTS (6: the ground) -/
def in7 (i : Int) : Prop := 0 ≤ i ∧ i < 7
/-- closed gaps -/
def Cl (D : Int → Int → Int) : Prop := (∀ i, in7 i → D i i = 0) ∧ (∀ i j k, in7 i → in7 j → in7 k → D i k + D k j ≤ D i j) ∧ ∀ i j, in7 i → in7 j → -1000000 ≤ D i j
def obey (D : Int → Int → Int) (v : Int → Int) : Prop := ∀ i j, in7 i → in7 j → v i + D i j ≤ v j
theorem Cl.up {D : Int → Int → Int} (q : Cl D) {i j : Int} (hi : in7 i) (hj : in7 j) : -1000000 ≤ D i j ∧ D i j ≤ 1000000 := by
  have a := q.2.2 i j hi hj
  have b := q.2.2 j i hj hi
  have c := q.2.1 i i j hi hi hj
  have e := q.1 i hi
  omega
/-- one more is asked -/
def ask1 (D : Int → Int → Int) (a b g : Int) (i j : Int) : Int := max (D i j) (D i a + g + D b j)
theorem ask1_cl {D : Int → Int → Int} (q : Cl D) {a b g : Int} (ha : in7 a) (hb : in7 b) (hg : g + D b a ≤ 0) : Cl (ask1 D a b g) := by
  refine ⟨fun i hi => ?_, fun i j k hi hj hk => ?_, fun i j hi hj => ?_⟩
  · have h1 := q.2.1 b a i hb ha hi
    have h2 := q.1 i hi
    unfold ask1
    omega
  · have h1 := q.2.1 i j k hi hj hk
    have h2 := q.2.1 b j k hb hj hk
    have h3 := q.2.1 i a k hi ha hk
    have h4 := q.2.1 b a k hb ha hk
    unfold ask1
    omega
  · have h1 := q.2.2 i j hi hj
    unfold ask1
    omega
theorem ask1_row {D : Int → Int → Int} {a b g : Int} (hg : g + D b a ≤ 0) {j : Int} : ask1 D a b g b j = D b j := by
  unfold ask1; omega
theorem ask1_obey {D : Int → Int → Int} (q : Cl D) {a b g : Int} (ha : in7 a) (hb : in7 b) {v : Int → Int} : obey (ask1 D a b g) v ↔ obey D v ∧ v a + g ≤ v b := by
  constructor
  · intro h
    refine ⟨fun i j hi hj => ?_, ?_⟩
    · have := h i j hi hj
      unfold ask1 at this
      omega
    · have h1 := h a b ha hb
      have h2 := q.1 a ha
      have h3 := q.1 b hb
      unfold ask1 at h1
      omega
  · intro ⟨h, hv⟩ i j hi hj
    have h1 := h i j hi hj
    have h2 := h i a hi ha
    have h3 := h b j hb hj
    unfold ask1
    omega
theorem ask0_obey {D : Int → Int → Int} {a b g : Int} (ha : in7 a) (hb : in7 b) (hg : g ≤ D a b) {v : Int → Int} : obey D v ↔ obey D v ∧ v a + g ≤ v b := by
  refine ⟨fun h => ⟨h, ?_⟩, fun h => h.1⟩
  have := h a b ha hb
  omega
theorem askN_obey {D : Int → Int → Int} {a b g : Int} (ha : in7 a) (hb : in7 b) (hg : 0 < g + D b a) {v : Int → Int} (h : obey D v) : ¬ v a + g ≤ v b := by
  have := h b a hb ha
  omega
theorem obey_row {D : Int → Int → Int} (q : Cl D) {a : Int} (ha : in7 a) : obey D (fun j => D a j) := fun i j hi hj => q.2.1 a j i ha hj hi
def GapC (h : aH) (b : Nat) (D : Int → Int → Int) : Prop := ∀ i j, in7 i → in7 j → ga h (b + 1) (i * 7 + j) = D i j
def isG (b : Nat) : Prop := b = 26 ∨ b = 28 ∨ b = 36 ∨ b = 38 ∨ b = 45
theorem isG3 {b : Nat} (hb : isG b) : ¬ b = 1003 ∧ ¬ b + 1 = 1003 := by unfold isG at hb; omega
/-- rows ahead of i, and in row i those ahead of j, are D', the rest D -/
def gmix (D' D : Int → Int → Int) (i j x y : Int) : Int := if x < i ∨ (x = i ∧ y < j) then D' x y else D x y
theorem gmix_step {D' D : Int → Int → Int} {i j : Int} {x y : Int} : gmix D' D i (j + 1) x y = if x = i ∧ y = j then D' x y else gmix D' D i j x y := by
  unfold gmix
  by_cases c : x = i ∧ y = j
  · rw [if_pos c, if_pos (by omega)]
  · rw [if_neg c]
    by_cases c2 : x < i ∨ x = i ∧ y < j
    · rw [if_pos c2, if_pos (by omega)]
    · rw [if_neg c2, if_neg (by omega)]
theorem gmix_row {D' D : Int → Int → Int} {i x y : Int} (hy : in7 y) : gmix D' D i 7 x y = gmix D' D (i + 1) 0 x y := by
  unfold gmix in7 at *
  by_cases c : x < i ∨ x = i ∧ y < 7
  · rw [if_pos c, if_pos (by omega)]
  · rw [if_neg c, if_neg (by omega)]
section GAP
variable {d : Nat} {h : aH} {post : Option Value → aH → Prop} {b : Nat} {D D' : Int → Int → Int}
theorem GapC.fr {lo hi : Nat} {h' : aH} (q : GapC h b D) (f : Fr lo hi h h') (hc : b + 1 < lo ∨ hi ≤ b + 1) : GapC h' b D := fun i j hi hj => (f.ag hc).trans (q i j hi hj)
theorem GapC.congr (q : GapC h b D) (e : ∀ i j, in7 i → in7 j → D i j = D' i j) : GapC h b D' := fun i j hi hj => (q i j hi hj).trans (e i j hi hj)
theorem GapC.put {i j z : Int} (q : GapC h b (gmix D' D i j)) (hi : in7 i) (hj : in7 j) (hz : z = D' i j) (hr : -2147483648 ≤ z ∧ z < 2147483648) : GapC (sa h (b + 1) (i * 7 + j) z) b (gmix D' D i (j + 1)) := by
  intro x y hx hy
  unfold in7 at *
  rw [ga_sa (by omega) (by omega) (by omega) (by omega), gmix_step]
  by_cases c : x = i ∧ y = j
  · obtain ⟨rfl, rfl⟩ := c
    rw [if_pos rfl, if_pos ⟨rfl, rfl⟩, hz]
  · rw [if_neg (by omega), if_neg c]
    exact q x y hx hy
theorem GapC.keep {i j : Int} (q : GapC h b (gmix D' D i j)) (hz : gmix D' D i j i j = D' i j) : GapC h b (gmix D' D i (j + 1)) := by
  refine q.congr (fun x y hx hy => ?_)
  rw [gmix_step]
  by_cases c : x = i ∧ y = j
  · obtain ⟨rfl, rfl⟩ := c
    rw [if_pos ⟨rfl, rfl⟩, hz]
  · rw [if_neg c]
theorem gmix_at {i j : Int} : gmix D' D i j i j = D i j := by unfold gmix; rw [if_neg (by omega)]
theorem c_Gaps_askRow (hL : Lay h) (hb : isG b) (q : Cl D) {a c g : Int} (ha : in7 a) (hc : in7 c) (hg : -19 ≤ g ∧ g ≤ 19) (h2 : g + D c a ≤ 0) {i : Int} (hi : in7 i) {w : Value} (G : GapC h b (gmix (ask1 D a c g) D i 0)) (kk : ∀ h' w1 w2, Lay h' → Fr (b + 1) (b + 2) h h' → GapC h' b (gmix (ask1 D a c g) D (i + 1) 0) → R d 0 0 19 38 [.ref b, .int (I a), .int (I c), .int (I g), .int (I (i + 1)), .int (I (D i a + g)), w1, w2] [] h' post) : R d 0 0 19 64 [.ref b, .int (I a), .int (I c), .int (I g), .int (I i), .int (I (D i a + g)), .int (I 0), w] [] h post := by
  refine R_forJ (J := Value) (fun j w => [.ref b, .int (I a), .int (I c), .int (I g), .int (I i), .int (I (D i a + g)), .int (I j), w]) (fun j h' => Lay h' ∧ Fr (b + 1) (b + 2) h h' ∧ GapC h' b (gmix (ask1 D a c g) D i j)) 7 (fun j w h' hj hV ih => ?_) (fun w h' hV => ?_) w h ⟨hL, Fr.id, G⟩
  · obtain ⟨v1, v2, v3⟩ := hV
    have hj7 : in7 (j : Int) := by unfold in7; omega
    have e1 : ga h' (b + 1) (c * 7 + (j : Int)) = D c j := by
      rw [v3 c j hc hj7]
      unfold gmix
      split
      · exact ask1_row h2
      · rfl
    have e2 : ga h' (b + 1) (i * 7 + (j : Int)) = D i j := (v3 i j hi hj7).trans gmix_at
    have u1 := q.up hi ha
    have u2 := q.up hc hj7
    have u3 := q.up hi hj7
    have b3 := isG3 hb
    unfold in7 at ha hc hi
    rw [e19_64]
    simp (disch := (first | assumption | omega | exact zor_0 | exact zand_0 | exact zandn_0 | exact zbit_0 | exact zxor_0 | exact (bz_01 _).1 | (repeat (first | assumption | refine Lay.sF ?_ rfl | refine Lay.sA ?_ (by decide) | refine Lay.iall ?_ (by decide) | refine Lay.sL ?_ | refine Lay.sFL ?_ (by decide))))) only [e19_0, e19_1, e19_2, e19_5, e19_6, e19_8, e19_9, e19_10, e19_11, e19_12, e19_15, e19_16, e19_17, e19_18, e19_19, e19_22, e19_23, e19_25, e19_26, e19_27, e19_28, e19_29, e19_30, e19_33, e19_34, e19_35, e19_36, e19_40, e19_42, e19_45, e19_46, e19_49, e19_51, e19_53, e19_54, e19_55, e19_56, e19_57, e19_58, e19_59, e19_61, e19_62, e19_66, e19_68, e19_71, e19_73, e19_74, e19_77, e19_78, e19_80, e19_81, e19_83, e19_84, e19_85, e19_86, e19_88, e19_90, e19_91, e19_94, e19_96, e19_98, e19_99, e19_101, e19_102, e19_103, e19_106, e19_107, e19_110, e19_112, e19_114, e19_115, e19_117, e19_118, e19_120, e19_121, e19_124, e19_127, e19_130, e19_133, e19_134, ne_eq, not_false_eq_true, true_and, and_true, reduceCtorEq, Nat.reduceEqDiff, Nat.reduceAdd, Nat.reduceSub, Nat.reduceLeDiff, Nat.reduceLT, Int.reduceEq, Int.reduceLT, Int.reduceLE, Int.reduceNeg, Int.reduceAdd, Int.reduceSub, Int.reduceMul, Int.reduceToNat, Int.cast_ofNat_Int, Int.natCast_zero, Nat.le_refl, Nat.zero_le, if_true, if_false, ite_true, ite_false, and_self, and_false, false_and, or_true, true_or, or_false, false_or, not_true_eq_false, Classical.not_not, not_or, Int.not_lt, Int.not_le, a_clr, Option.toList_some, Option.toList_none, List.cons_append, List.nil_append, a_cw, List.map_cons, List.map_nil, List.sum_cons, List.sum_nil, Value.category, nar_b0, nar_b1, sh_sa, sh_sf, sh_sl, sh_sfl, a_sh_iall, a_fv_iall, fv_sa, fv_sl, fv_sf_eq, fv_sf_ne, fv_sfl_eq, fv_sfl_ne, ga_sf, ga_sl, ga_sfl, ga_sa_ne, ga_sa, ga_iall_ne, gf_sa, gf_iall, gf_sl, gf_sfl, gf_sf_ne, gf_sf_eq, gl_sa, gl_iall, gl_sf, gl_sl_ne, gl_sl, gfl_sa, gfl_iall, gfl_sl, gfl_sf, gfl_sfl_ne, gfl_sfl_eq, ld_a, ld_0, ld_1, ld_2, st_a, st_0, st_f, ld_l, st_l, st_fl, sa_sa, sf_sf, sfl_sfl, k_max, k_far, k_no, zadd, zsub, zmul, zneg, zmax, zmin, zabs, zltI, zleI, zeqI, zlt0I, zle0I, z0ltI, z0leI, zeq0I, ti_ga, ti_gf, ti_bz, ztoInt, zinT, zix, bz_eq0, bz_eq1, bz_e0, bz_e1, bz_eqb, bz_or1, bz_True, bz_False, zor_i, zand_i, zxor_i, zandn_i, zandn_i2, zbit_i, ib_i, nB0, nB1, nBz, fk_T, fk_F, fk_pos, fk_neg, fk_same, fk_not, fk_and, fk_andn, fk_nand, fk_or, fkP10, fkP01, fkP0z, fkPz0, fkP1z, fkPz1, layGaps v1 hb, b3, e1, e2]
    refine ⟨fun e => ?_, fun e => ?_⟩
    · refine ih _ _ ⟨v1, v2, ?_⟩
      rw [show ((j + 1 : Nat) : Int) = (j : Int) + 1 by omega]
      exact v3.keep (by rw [gmix_at]; unfold ask1; omega)
    · refine ih _ _ ⟨v1.sA (by unfold isG at hb; omega), v2.sA (by omega), ?_⟩
      rw [show ((j + 1 : Nat) : Int) = (j : Int) + 1 by omega]
      exact v3.put hi hj7 (by unfold ask1; omega) (by omega)
  · obtain ⟨v1, v2, v3⟩ := hV
    unfold in7 at hi
    rw [e19_64]
    simp (disch := (first | assumption | omega | exact zor_0 | exact zand_0 | exact zandn_0 | exact zbit_0 | exact zxor_0 | exact (bz_01 _).1 | (repeat (first | assumption | refine Lay.sF ?_ rfl | refine Lay.sA ?_ (by decide) | refine Lay.iall ?_ (by decide) | refine Lay.sL ?_ | refine Lay.sFL ?_ (by decide))))) only [e19_0, e19_1, e19_2, e19_5, e19_6, e19_8, e19_9, e19_10, e19_11, e19_12, e19_15, e19_16, e19_17, e19_18, e19_19, e19_22, e19_23, e19_25, e19_26, e19_27, e19_28, e19_29, e19_30, e19_33, e19_34, e19_35, e19_36, e19_40, e19_42, e19_45, e19_46, e19_49, e19_51, e19_53, e19_54, e19_55, e19_56, e19_57, e19_58, e19_59, e19_61, e19_62, e19_66, e19_68, e19_71, e19_73, e19_74, e19_77, e19_78, e19_80, e19_81, e19_83, e19_84, e19_85, e19_86, e19_88, e19_90, e19_91, e19_94, e19_96, e19_98, e19_99, e19_101, e19_102, e19_103, e19_106, e19_107, e19_110, e19_112, e19_114, e19_115, e19_117, e19_118, e19_120, e19_121, e19_124, e19_127, e19_130, e19_133, e19_134, ne_eq, not_false_eq_true, true_and, and_true, reduceCtorEq, Nat.reduceEqDiff, Nat.reduceAdd, Nat.reduceSub, Nat.reduceLeDiff, Nat.reduceLT, Int.reduceEq, Int.reduceLT, Int.reduceLE, Int.reduceNeg, Int.reduceAdd, Int.reduceSub, Int.reduceMul, Int.reduceToNat, Int.cast_ofNat_Int, Int.natCast_zero, Nat.le_refl, Nat.zero_le, if_true, if_false, ite_true, ite_false, and_self, and_false, false_and, or_true, true_or, or_false, false_or, not_true_eq_false, Classical.not_not, not_or, Int.not_lt, Int.not_le, a_clr, Option.toList_some, Option.toList_none, List.cons_append, List.nil_append, a_cw, List.map_cons, List.map_nil, List.sum_cons, List.sum_nil, Value.category, nar_b0, nar_b1, sh_sa, sh_sf, sh_sl, sh_sfl, a_sh_iall, a_fv_iall, fv_sa, fv_sl, fv_sf_eq, fv_sf_ne, fv_sfl_eq, fv_sfl_ne, ga_sf, ga_sl, ga_sfl, ga_sa_ne, ga_sa, ga_iall_ne, gf_sa, gf_iall, gf_sl, gf_sfl, gf_sf_ne, gf_sf_eq, gl_sa, gl_iall, gl_sf, gl_sl_ne, gl_sl, gfl_sa, gfl_iall, gfl_sl, gfl_sf, gfl_sfl_ne, gfl_sfl_eq, ld_a, ld_0, ld_1, ld_2, st_a, st_0, st_f, ld_l, st_l, st_fl, sa_sa, sf_sf, sfl_sfl, k_max, k_far, k_no, zadd, zsub, zmul, zneg, zmax, zmin, zabs, zltI, zleI, zeqI, zlt0I, zle0I, z0ltI, z0leI, zeq0I, ti_ga, ti_gf, ti_bz, ztoInt, zinT, zix, bz_eq0, bz_eq1, bz_e0, bz_e1, bz_eqb, bz_or1, bz_True, bz_False, zor_i, zand_i, zxor_i, zandn_i, zandn_i2, zbit_i, ib_i, nB0, nB1, nBz, fk_T, fk_F, fk_pos, fk_neg, fk_same, fk_not, fk_and, fk_andn, fk_nand, fk_or, fkP10, fkP01, fkP0z, fkPz0, fkP1z, fkPz1]
    exact kk h' _ _ v1 v2 (v3.congr (fun x y _ hy => gmix_row hy))
end GAP
