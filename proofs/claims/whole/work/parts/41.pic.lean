/-! Picture: begin, place, layLaw (receiver b = 14 or 19) -/
section PIC
variable {d : Nat} {h : aH} {post : Option Value → aH → Prop} {b : Nat}
/-- the heap with a picture's rows and LAWS set -/
def picSet (h : aH) (b : Nat) (X Y M L : Nat → Int32) (on : Int32) : aH := a_fset (a_iall (a_iall (a_iall (a_iall h (b + 1) X) (b + 2) Y) (b + 3) M) (b + 4) L) b 4 (.int on)
theorem c_Picture_place (hL : Lay h) (hb : b = 14 ∨ b = 19) {p : Nat} {x y t m : Int} (hp : p < 6) (ht : -1 ≤ t ∧ t < 100000) (hm : a_ia h (b + 3) p = I m) (hm2 : -1 ≤ m ∧ m < 100000) (k1 : m < t → post none (a_iall (a_iall (a_iall h (b + 1) (upd (a_ia h (b + 1)) p (I x))) (b + 2) (upd (a_ia h (b + 2)) p (I y))) (b + 3) (upd (a_ia h (b + 3)) p (I t)))) (k0 : ¬ m < t → post none h) : R d 0 0 68 0 [.ref b, .int (I p), .int (I x), .int (I y), .int (I t)] [] h post := by
  have hb3 : b ≠ 1003 := by omega
  refine ev_R 6 ?_
  simp (disch := omega) only [e68_0, e68_2, e68_3, e68_6, e68_7, e68_8, ev_zero, a_clr, Option.toList_some, Option.toList_none, List.cons_append, List.nil_append, ne_eq, not_false_eq_true, true_and, and_true, reduceCtorEq, Nat.reduceEqDiff, a_cw, List.map_cons, List.map_nil, List.sum_cons, List.sum_nil, Value.category, Nat.reduceAdd, Nat.reduceLeDiff, Nat.reduceLT, Int.reduceEq, Int.reduceLT, Int.reduceLE, Int.reduceNeg, Int.reduceAdd, Int.reduceSub, Int.reduceMul, Int.reduceToNat, Nat.le_refl, Nat.zero_le, a_sh_fset, a_sh_iall, a_sh_lall, a_fv_iall, a_fv_lall, a_ia_fset, a_ia_lall, a_la_fset, a_la_iall, a_fv_fset, a_ia_iall, a_la_lall, a_iall_fset, a_lall_fset, a_iall_lall, a_iall_iall, a_iall_srt, a_lall_lall, a_lall_srt, a_fset_fset, a_fset_srt, zadd, zsub, zmul, zneg, zlt, zle, zeq, zeq0, zlt0, zle0, z0le, z0lt, zin, zix, Int.toNat_natCast, Int.ofNat_lt, Int.ofNat_le, nB0, nB1, if_true, if_false, ite_true, ite_false, and_self, and_false, false_and, or_true, true_or, not_true_eq_false, false_implies, true_implies, layPicture hL hb, hb3, hm, hp]
  refine ⟨fun q => ?_, fun q => ?_⟩
  · refine ev_R 1 ?_
    simp (disch := omega) only [e68_33, ev_zero, a_clr, Option.toList_some, Option.toList_none, List.cons_append, List.nil_append, ne_eq, not_false_eq_true, true_and, and_true, reduceCtorEq, Nat.reduceEqDiff, a_cw, List.map_cons, List.map_nil, List.sum_cons, List.sum_nil, Value.category, Nat.reduceAdd, Nat.reduceLeDiff, Nat.reduceLT, Int.reduceEq, Int.reduceLT, Int.reduceLE, Int.reduceNeg, Int.reduceAdd, Int.reduceSub, Int.reduceMul, Int.reduceToNat, Nat.le_refl, Nat.zero_le, a_sh_fset, a_sh_iall, a_sh_lall, a_fv_iall, a_fv_lall, a_ia_fset, a_ia_lall, a_la_fset, a_la_iall, a_fv_fset, a_ia_iall, a_la_lall, a_iall_fset, a_lall_fset, a_iall_lall, a_iall_iall, a_iall_srt, a_lall_lall, a_lall_srt, a_fset_fset, a_fset_srt, zadd, zsub, zmul, zneg, zlt, zle, zeq, zeq0, zlt0, zle0, z0le, z0lt, zin, zix, Int.toNat_natCast, Int.ofNat_lt, Int.ofNat_le, nB0, nB1, if_true, if_false, ite_true, ite_false, and_self, and_false, false_and, or_true, true_or, not_true_eq_false, false_implies, true_implies]
    exact k0 (by omega)
  · refine ev_R 16 ?_
    simp (disch := omega) only [e68_11, e68_12, e68_15, e68_16, e68_18, e68_19, e68_20, e68_23, e68_24, e68_25, e68_26, e68_27, e68_30, e68_31, e68_32, e68_33, ev_zero, a_clr, Option.toList_some, Option.toList_none, List.cons_append, List.nil_append, ne_eq, not_false_eq_true, true_and, and_true, reduceCtorEq, Nat.reduceEqDiff, a_cw, List.map_cons, List.map_nil, List.sum_cons, List.sum_nil, Value.category, Nat.reduceAdd, Nat.reduceLeDiff, Nat.reduceLT, Int.reduceEq, Int.reduceLT, Int.reduceLE, Int.reduceNeg, Int.reduceAdd, Int.reduceSub, Int.reduceMul, Int.reduceToNat, Nat.le_refl, Nat.zero_le, a_sh_fset, a_sh_iall, a_sh_lall, a_fv_iall, a_fv_lall, a_ia_fset, a_ia_lall, a_la_fset, a_la_iall, a_fv_fset, a_ia_iall, a_la_lall, a_iall_fset, a_lall_fset, a_iall_lall, a_iall_iall, a_iall_srt, a_lall_lall, a_lall_srt, a_fset_fset, a_fset_srt, zadd, zsub, zmul, zneg, zlt, zle, zeq, zeq0, zlt0, zle0, z0le, z0lt, zin, zix, Int.toNat_natCast, Int.ofNat_lt, Int.ofNat_le, nB0, nB1, if_true, if_false, ite_true, ite_false, and_self, and_false, false_and, or_true, true_or, not_true_eq_false, false_implies, true_implies, layPicture hL hb, hb3, hp, Nat.add_left_cancel_iff, Nat.add_eq_left, Nat.left_eq_add]
    exact k1 (by omega)
theorem upd_below (f : Nat → Int32) (i : Nat) (x : Int32) : upd (fun j => if j < i then x else f j) i x = fun j => if j < i + 1 then x else f j := by
  funext j
  simp only [upd]
  by_cases h1 : j = i
  · subst h1; simp
  · by_cases h2 : j < i
    · simp [h1, h2, show j < i + 1 by omega]
    · simp [h1, h2, show ¬ j < i + 1 by omega]
def below (f : Nat → Int32) (i : Nat) (x : Int32) : Nat → Int32 := fun j => if j < i then x else f j
theorem upd_below' (f : Nat → Int32) (i : Nat) (x : Int32) : upd (below f i x) i x = below f (i + 1) x := upd_below f i x
theorem below_0 (f : Nat → Int32) (x : Int32) : below f 0 x = f := by funext j; simp [below]
theorem c_Picture_begin (hL : Lay h) (hb : b = 14 ∨ b = 19) {on : Int} (k : post none (a_fset (a_iall (a_iall (a_iall (a_iall h (b + 1) (below (a_ia h (b + 1)) 6 (I 5))) (b + 2) (below (a_ia h (b + 2)) 6 (I 5))) (b + 3) (below (a_ia h (b + 3)) 6 (I (-1)))) (b + 4) (below (a_ia h (b + 4)) 12 (I (-1)))) b 4 (.int (I on)))) : R d 0 0 67 0 [.ref b, .int (I on), .null] [] h post := by
  have hb3 : b ≠ 1003 := by omega
  refine ev_R 5 ?_
  simp (disch := omega) only [e67_0, e67_1, e67_2, e67_3, e67_5, ev_zero, a_clr, Option.toList_some, Option.toList_none, List.cons_append, List.nil_append, ne_eq, not_false_eq_true, true_and, and_true, reduceCtorEq, Nat.reduceEqDiff, a_cw, List.map_cons, List.map_nil, List.sum_cons, List.sum_nil, Value.category, Nat.reduceAdd, Nat.reduceLeDiff, Nat.reduceLT, Int.reduceEq, Int.reduceLT, Int.reduceLE, Int.reduceNeg, Int.reduceAdd, Int.reduceSub, Int.reduceMul, Int.reduceToNat, Nat.le_refl, Nat.zero_le, a_sh_fset, a_sh_iall, a_sh_lall, a_fv_iall, a_fv_lall, a_ia_fset, a_ia_lall, a_la_fset, a_la_iall, a_fv_fset, a_ia_iall, a_la_lall, a_iall_fset, a_lall_fset, a_iall_lall, a_iall_iall, a_iall_srt, a_lall_lall, a_lall_srt, a_fset_fset, a_fset_srt, zadd, zsub, zmul, zneg, zlt, zle, zeq, zeq0, zlt0, zle0, z0le, z0lt, zin, zix, Int.toNat_natCast, Int.ofNat_lt, Int.ofNat_le, nB0, nB1, if_true, if_false, ite_true, ite_false, and_self, and_false, false_and, or_true, true_or, not_true_eq_false, false_implies, true_implies]
  have hl := layPicture hL hb
  refine R_for 6 (fun i => [.ref b, .int (I on), .int (I i)]) (fun i => a_iall (a_iall (a_iall h (b + 1) (below (a_ia h (b + 1)) i (I 5))) (b + 2) (below (a_ia h (b + 2)) i (I 5))) (b + 3) (below (a_ia h (b + 3)) i (I (-1)))) (fun i hi ih => ?_) ?_ 0 (by omega)
  · trace_state
    sorry
  · sorry
end PIC
