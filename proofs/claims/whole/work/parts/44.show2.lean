/-! THE PICTURE in words of numbers; Story.show -/
noncomputable def lastC (P : Int → Prop) (tn : Int → Int) : Nat → Int
  | 0 => -9
  | n + 1 => cif (P n ∧ (lastC P tn n = -9 ∨ tn (lastC P tn n) < tn n)) (n : Int) (lastC P tn n)
section LASTC
variable {P Q : Int → Prop} {tn : Int → Int} {n : Nat}
theorem lastC_lt : ∀ n : Nat, lastC P tn n = -9 ∨ (0 ≤ lastC P tn n ∧ lastC P tn n < n ∧ P (lastC P tn n)) := by
  intro n
  induction n with
  | zero => exact Or.inl rfl
  | succ n ih =>
    simp only [lastC]
    by_cases hc : P n ∧ (lastC P tn n = -9 ∨ tn (lastC P tn n) < tn n)
    · rw [cif_pos hc]
      exact Or.inr ⟨by omega, by omega, hc.1⟩
    · rw [cif_neg hc]
      rcases ih with e | e
      · exact Or.inl e
      · exact Or.inr ⟨e.1, by omega, e.2.2⟩
theorem lastC_no (h : ¬ P n) : lastC P tn (n + 1) = lastC P tn n := by
  simp only [lastC]
  rw [cif_neg (fun q => h q.1)]
theorem lastC_yes (h : P n) (q : lastC P tn n = -9 ∨ tn (lastC P tn n) < tn n) : lastC P tn (n + 1) = n := by
  simp only [lastC]
  rw [cif_pos ⟨h, q⟩]
theorem lastC_old (q : ¬ (lastC P tn n = -9 ∨ tn (lastC P tn n) < tn n)) : lastC P tn (n + 1) = lastC P tn n := by
  simp only [lastC]
  rw [cif_neg (fun z => q z.2)]
theorem lastC_congr : ∀ {n : Nat}, (∀ c : Int, 0 ≤ c → c < n → (P c ↔ Q c)) → lastC P tn n = lastC Q tn n := by
  intro n
  induction n with
  | zero => intro _; rfl
  | succ n ih =>
    intro h
    simp only [lastC]
    rw [ih (fun c h0 h1 => h c h0 (by omega)), propext (h n (by omega) (by omega))]
end LASTC
def undone (k : Int) (S : Nat → Int → Int) (seen : Int → Int64) (i u c : Int) : Prop := ∃ o, 0 ≤ o ∧ o < k ∧ S 1 o = 3 ∧ S 2 o = c ∧ lb (seen i) o ∧ S 5 o ≤ u
def eff (k : Int) (S : Nat → Int → Int) (seen : Int → Int64) (i u c : Int) : Prop := lb (seen i) c ∧ S 5 c ≤ u ∧ ¬ undone k S seen i u c
def mvP (k : Int) (S : Nat → Int → Int) (seen : Int → Int64) (i u p c : Int) : Prop := eff k S seen i u c ∧ S 1 c = 0 ∧ S 2 c = p
def lwP (k : Int) (S : Nat → Int → Int) (seen : Int → Int64) (mk i u l c : Int) : Prop := mk ≤ c ∧ eff k S seen i u c ∧ (S 1 c = 1 ∨ S 1 c = 2) ∧ S 2 c = l
def tnS (S : Nat → Int → Int) (c : Int) : Int := S 5 c * 3 + S 0 c
def stnd (S : Nat → Int → Int) (w : Nat) (o : Int) : Int := if o = -9 then 5 else S w o
def onAt (S : Nat → Int → Int) (o : Int) : Prop := o = -9 ∨ S 1 o = 2
def tlast (S : Nat → Int → Int) (o : Int) : Int := if o = -9 then -1 else tnS S o
/-- where a POINT STANDS, and whether a LAW is ON, by n CHANGES -/
noncomputable def stP (k : Int) (S : Nat → Int → Int) (seen : Int → Int64) (i u : Int) (w : Nat) (p : Int) : Int := stnd S w (lastC (mvP k S seen i u p) (tnS S) k.toNat)
def onP (k : Int) (S : Nat → Int → Int) (seen : Int → Int64) (mk i u l : Int) : Prop := onAt S (lastC (lwP k S seen mk i u l) (tnS S) k.toNat)
theorem fk_in {c A B : Prop} (h1 : c → A) (h2 : ¬ c → B) : fk c A B := ⟨h1, h2⟩
section SHOW2
variable {d : Nat} {h : aH} {post : Option Value → aH → Prop} {b : Nat} {k mk : Int} {S : Nat → Int → Int} {seen saw : Int → Int64} {bk lt : Int → Int}
theorem undone_bk (hO : StO k S seen saw mk bk lt) {c i u : Int} (hc : 0 ≤ c ∧ c < k) : undone k S seen i u c ↔ (0 ≤ bk c ∧ S 5 (bk c) ≤ u ∧ lb (seen i) (bk c)) := by
  rcases hO.2.2.1 c hc.1 hc.2 with ⟨e, q⟩ | ⟨q1, q2, q3, q4, q5⟩
  · constructor
    · rintro ⟨o, h0, h1, h2, h3, _⟩
      exact absurd ⟨h2, h3⟩ (q o h0 h1)
    · intro z; omega
  · constructor
    · rintro ⟨o, h0, h1, h2, h3, h4, h5⟩
      rw [← q5 o h0 h1 h2 h3]
      exact ⟨h0, h5, h4⟩
    · rintro ⟨z0, z1, z2⟩
      exact ⟨bk c, z0, q2, q3, q4, z2, z1⟩
/-- what stands after n CHANGES -/
def PicN (b : Nat) (k mk m i u : Int) (S : Nat → Int → Int) (seen : Int → Int64) (h h' : aH) (n : Nat) : Prop := Lay h' ∧ Fr b (b + 5) h h' ∧ (∀ p : Int, 0 ≤ p → p < 6 → ga h' (b + 3) p = tlast S (lastC (mvP k S seen i u p) (tnS S) n) ∧ ga h' (b + 1) p = stnd S 3 (lastC (mvP k S seen i u p) (tnS S) n) ∧ ga h' (b + 2) p = stnd S 4 (lastC (mvP k S seen i u p) (tnS S) n)) ∧ (∀ l : Int, 0 ≤ l → l < 12 → ga h' (b + 4) l = tlast S (lastC (lwP k S seen mk i u l) (tnS S) n)) ∧ 0 ≤ gf h' b 4 ∧ gf h' b 4 < 4096 ∧ ∀ l : Int, 0 ≤ l → (ib (gf h' b 4) l ↔ l < m ∧ onAt S (lastC (lwP k S seen mk i u l) (tnS S) n))
theorem tlast_lt {o t : Int} (ht : 0 ≤ t) : (tlast S o < t) ↔ (o = -9 ∨ tnS S o < t) := by
  unfold tlast
  by_cases e : o = -9
  · simp [e]; omega
  · simp [e]
theorem PicN.skip {m i u : Int} {h' : aH} {n : Nat} (q : PicN b k mk m i u S seen h h' n) (hn : ∀ p, ¬ mvP k S seen i u p n) (hl : ∀ l, ¬ lwP k S seen mk i u l n) : PicN b k mk m i u S seen h h' (n + 1) := by
  obtain ⟨q1, q2, q3, q4, q5, q6, q7⟩ := q
  refine ⟨q1, q2, fun p h0 h1 => ?_, fun l h0 h1 => ?_, q5, q6, fun l h0 => ?_⟩
  · rw [lastC_no (hn p)]; exact q3 p h0 h1
  · rw [lastC_no (hl l)]; exact q4 l h0 h1
  · rw [lastC_no (hl l)]; exact q7 l h0
theorem PicN.old {m i u : Int} {h' : aH} {n : Nat} (q : PicN b k mk m i u S seen h h' n) (hn : ∀ p, mvP k S seen i u p n → ¬ (lastC (mvP k S seen i u p) (tnS S) n = -9 ∨ tnS S (lastC (mvP k S seen i u p) (tnS S) n) < tnS S n)) (hl : ∀ l, lwP k S seen mk i u l n → ¬ (lastC (lwP k S seen mk i u l) (tnS S) n = -9 ∨ tnS S (lastC (lwP k S seen mk i u l) (tnS S) n) < tnS S n)) : PicN b k mk m i u S seen h h' (n + 1) := by
  obtain ⟨q1, q2, q3, q4, q5, q6, q7⟩ := q
  have e1 : ∀ p, lastC (mvP k S seen i u p) (tnS S) (n + 1) = lastC (mvP k S seen i u p) (tnS S) n := fun p => by
    by_cases e : mvP k S seen i u p n
    · exact lastC_old (hn p e)
    · exact lastC_no e
  have e2 : ∀ l, lastC (lwP k S seen mk i u l) (tnS S) (n + 1) = lastC (lwP k S seen mk i u l) (tnS S) n := fun p => by
    by_cases e : lwP k S seen mk i u p n
    · exact lastC_old (hl p e)
    · exact lastC_no e
  refine ⟨q1, q2, fun p h0 h1 => ?_, fun l h0 h1 => ?_, q5, q6, fun l h0 => ?_⟩
  · rw [e1]; exact q3 p h0 h1
  · rw [e2]; exact q4 l h0 h1
  · rw [e2]; exact q7 l h0
theorem c_Story_show (hL : Lay h) (hb : b = 14 ∨ b = 19) (hS : StC h k S seen saw mk bk lt) (hO : StO k S seen saw mk bk lt) {m i u al : Int} (hi : 0 ≤ i ∧ i < 3) (hu : 0 ≤ u ∧ u < 2147483648) (ha : 0 ≤ al ∧ al < 4096) (hm : 0 ≤ m ∧ m ≤ 12) (hal : ∀ l : Int, 0 ≤ l → (ib al l ↔ l < m)) (hT : ∀ c, mk ≤ c → c < k → (S 1 c = 1 ∨ S 1 c = 2) → S 2 c < m) (kk : ∀ h', Lay h' → Fr b (b + 5) h h' → (∀ p, 0 ≤ p → p < 6 → ga h' (b + 1) p = stP k S seen i u 3 p ∧ ga h' (b + 2) p = stP k S seen i u 4 p) → 0 ≤ gf h' b 4 → gf h' b 4 < 4096 → (∀ l, 0 ≤ l → (ib (gf h' b 4) l ↔ l < m ∧ onP k S seen mk i u l)) → post none h') : R (d + 3) 0 0 116 0 [.ref 3, .ref b, .int (I i), .int (I u), .int (I al), .null] [] h post := by
  have hb3 : ¬ b = 1003 := by omega
  have hk := hO.1
  obtain ⟨N, hN⟩ : ∃ N : Nat, (N : Int) = k := ⟨k.toNat, by omega⟩
  simp (disch := (first | assumption | omega | exact zor_0 | exact zand_0 | exact zandn_0 | exact zbit_0 | exact zxor_0 | exact (bz_01 _).1 | (repeat (first | assumption | refine Lay.sF ?_ rfl | refine Lay.sA ?_ (by decide) | refine Lay.iall ?_ (by decide) | refine Lay.sL ?_ | refine Lay.sFL ?_ (by decide))))) only [e116_0, e116_1, e116_3, e116_6, e116_7, e116_11, e116_12, e116_15, e116_18, e116_19, e116_22, e116_24, e116_25, e116_26, e116_29, e116_30, e116_32, e116_33, e116_34, e116_37, e116_40, e116_41, e116_43, e116_44, e116_45, e116_48, e116_51, e116_52, e116_53, e116_55, e116_58, e116_61, e116_64, ne_eq, not_false_eq_true, true_and, and_true, reduceCtorEq, Nat.reduceEqDiff, Nat.reduceAdd, Nat.reduceSub, Nat.reduceLeDiff, Nat.reduceLT, Int.reduceEq, Int.reduceLT, Int.reduceLE, Int.reduceNeg, Int.reduceAdd, Int.reduceSub, Int.reduceMul, Int.reduceToNat, Int.cast_ofNat_Int, Int.natCast_zero, Nat.le_refl, Nat.zero_le, if_true, if_false, ite_true, ite_false, and_self, and_false, false_and, or_true, true_or, or_false, false_or, not_true_eq_false, Classical.not_not, not_or, Int.not_lt, Int.not_le, a_clr, Option.toList_some, Option.toList_none, List.cons_append, List.nil_append, a_cw, List.map_cons, List.map_nil, List.sum_cons, List.sum_nil, Value.category, nar_b0, nar_b1, sh_sa, sh_sf, sh_sl, sh_sfl, a_sh_iall, a_fv_iall, fv_sa, fv_sl, fv_sf_eq, fv_sf_ne, fv_sfl_eq, fv_sfl_ne, ga_sf, ga_sl, ga_sfl, ga_sa_ne, ga_sa, ga_iall_ne, gf_sa, gf_iall, gf_sl, gf_sfl, gf_sf_ne, gf_sf_eq, gl_sa, gl_iall, gl_sf, gl_sl_ne, gl_sl, gfl_sa, gfl_iall, gfl_sl, gfl_sf, gfl_sfl_ne, gfl_sfl_eq, ld_a, ld_0, ld_1, ld_2, st_a, st_0, st_f, ld_l, st_l, st_fl, sa_sa, sf_sf, sfl_sfl, k_max, k_far, k_no, zadd, zsub, zmul, zneg, zmax, zmin, zabs, zltI, zleI, zeqI, zlt0I, zle0I, z0ltI, z0leI, zeq0I, ti_ga, ti_gf, ti_bz, ztoInt, zinT, zix, bz_eq0, bz_eq1, bz_e0, bz_e1, bz_eqb, bz_or1, bz_True, bz_False, zor_i, zand_i, zxor_i, zandn_i, zandn_i2, zbit_i, ib_i, nB0, nB1, nBz, fk_T, fk_F, fk_pos, fk_neg, fk_same, fk_not, fk_and, fk_andn, fk_nand, fk_or, fkP10, fkP01, fkP0z, fkPz0, fkP1z, fkPz1, (layPicture hL hb).1, hb3]
  refine c_Picture_begin hL hb (by omega) (fun h1 hL1 hF1 hA hB hC => ?_)
  simp (disch := (first | assumption | omega | exact zor_0 | exact zand_0 | exact zandn_0 | exact zbit_0 | exact zxor_0 | exact (bz_01 _).1 | (repeat (first | assumption | refine Lay.sF ?_ rfl | refine Lay.sA ?_ (by decide) | refine Lay.iall ?_ (by decide) | refine Lay.sL ?_ | refine Lay.sFL ?_ (by decide))))) only [e116_0, e116_1, e116_3, e116_6, e116_7, e116_11, e116_12, e116_15, e116_18, e116_19, e116_22, e116_24, e116_25, e116_26, e116_29, e116_30, e116_32, e116_33, e116_34, e116_37, e116_40, e116_41, e116_43, e116_44, e116_45, e116_48, e116_51, e116_52, e116_53, e116_55, e116_58, e116_61, e116_64, ne_eq, not_false_eq_true, true_and, and_true, reduceCtorEq, Nat.reduceEqDiff, Nat.reduceAdd, Nat.reduceSub, Nat.reduceLeDiff, Nat.reduceLT, Int.reduceEq, Int.reduceLT, Int.reduceLE, Int.reduceNeg, Int.reduceAdd, Int.reduceSub, Int.reduceMul, Int.reduceToNat, Int.cast_ofNat_Int, Int.natCast_zero, Nat.le_refl, Nat.zero_le, if_true, if_false, ite_true, ite_false, and_self, and_false, false_and, or_true, true_or, or_false, false_or, not_true_eq_false, Classical.not_not, not_or, Int.not_lt, Int.not_le, a_clr, Option.toList_some, Option.toList_none, List.cons_append, List.nil_append, a_cw, List.map_cons, List.map_nil, List.sum_cons, List.sum_nil, Value.category, nar_b0, nar_b1, sh_sa, sh_sf, sh_sl, sh_sfl, a_sh_iall, a_fv_iall, fv_sa, fv_sl, fv_sf_eq, fv_sf_ne, fv_sfl_eq, fv_sfl_ne, ga_sf, ga_sl, ga_sfl, ga_sa_ne, ga_sa, ga_iall_ne, gf_sa, gf_iall, gf_sl, gf_sfl, gf_sf_ne, gf_sf_eq, gl_sa, gl_iall, gl_sf, gl_sl_ne, gl_sl, gfl_sa, gfl_iall, gfl_sl, gfl_sf, gfl_sfl_ne, gfl_sfl_eq, ld_a, ld_0, ld_1, ld_2, st_a, st_0, st_f, ld_l, st_l, st_fl, sa_sa, sf_sf, sfl_sfl, k_max, k_far, k_no, zadd, zsub, zmul, zneg, zmax, zmin, zabs, zltI, zleI, zeqI, zlt0I, zle0I, z0ltI, z0leI, zeq0I, ti_ga, ti_gf, ti_bz, ztoInt, zinT, zix, bz_eq0, bz_eq1, bz_e0, bz_e1, bz_eqb, bz_or1, bz_True, bz_False, zor_i, zand_i, zxor_i, zandn_i, zandn_i2, zbit_i, ib_i, nB0, nB1, nBz, fk_T, fk_F, fk_pos, fk_neg, fk_same, fk_not, fk_and, fk_andn, fk_nand, fk_or, fkP10, fkP01, fkP0z, fkPz0, fkP1z, fkPz1]
  refine R_forI (fun n => [.ref 3, .ref b, .int (I i), .int (I u), .int (I al), .int (I (n : Nat))]) (fun n h' => PicN b k mk m i u S seen h h' n) N ?_ ?_ h1 ⟨hL1, hF1, fun p h0 h1 => ?_, fun l h0 h1 => ?_, by omega, by omega, fun l h0 => ?_⟩
  · intro n h' hn q ih
    have hS' := hS.fr q.2.1 (by omega)
    have hL' := q.1
    have o := hO.r (i := (n : Int)) (by omega) (by omega)
    have hun := undone_bk hO (c := (n : Int)) (i := i) (u := u) ⟨by omega, by omega⟩
    rw [e116_9]
    simp (disch := (first | assumption | omega | exact zor_0 | exact zand_0 | exact zandn_0 | exact zbit_0 | exact zxor_0 | exact (bz_01 _).1 | (repeat (first | assumption | refine Lay.sF ?_ rfl | refine Lay.sA ?_ (by decide) | refine Lay.iall ?_ (by decide) | refine Lay.sL ?_ | refine Lay.sFL ?_ (by decide))))) only [e116_0, e116_1, e116_3, e116_6, e116_7, e116_11, e116_12, e116_15, e116_18, e116_19, e116_22, e116_24, e116_25, e116_26, e116_29, e116_30, e116_32, e116_33, e116_34, e116_37, e116_40, e116_41, e116_43, e116_44, e116_45, e116_48, e116_51, e116_52, e116_53, e116_55, e116_58, e116_61, e116_64, ne_eq, not_false_eq_true, true_and, and_true, reduceCtorEq, Nat.reduceEqDiff, Nat.reduceAdd, Nat.reduceSub, Nat.reduceLeDiff, Nat.reduceLT, Int.reduceEq, Int.reduceLT, Int.reduceLE, Int.reduceNeg, Int.reduceAdd, Int.reduceSub, Int.reduceMul, Int.reduceToNat, Int.cast_ofNat_Int, Int.natCast_zero, Nat.le_refl, Nat.zero_le, if_true, if_false, ite_true, ite_false, and_self, and_false, false_and, or_true, true_or, or_false, false_or, not_true_eq_false, Classical.not_not, not_or, Int.not_lt, Int.not_le, a_clr, Option.toList_some, Option.toList_none, List.cons_append, List.nil_append, a_cw, List.map_cons, List.map_nil, List.sum_cons, List.sum_nil, Value.category, nar_b0, nar_b1, sh_sa, sh_sf, sh_sl, sh_sfl, a_sh_iall, a_fv_iall, fv_sa, fv_sl, fv_sf_eq, fv_sf_ne, fv_sfl_eq, fv_sfl_ne, ga_sf, ga_sl, ga_sfl, ga_sa_ne, ga_sa, ga_iall_ne, gf_sa, gf_iall, gf_sl, gf_sfl, gf_sf_ne, gf_sf_eq, gl_sa, gl_iall, gl_sf, gl_sl_ne, gl_sl, gfl_sa, gfl_iall, gfl_sl, gfl_sf, gfl_sfl_ne, gfl_sfl_eq, ld_a, ld_0, ld_1, ld_2, st_a, st_0, st_f, ld_l, st_l, st_fl, sa_sa, sf_sf, sfl_sfl, k_max, k_far, k_no, zadd, zsub, zmul, zneg, zmax, zmin, zabs, zltI, zleI, zeqI, zlt0I, zle0I, z0ltI, z0leI, zeq0I, ti_ga, ti_gf, ti_bz, ztoInt, zinT, zix, bz_eq0, bz_eq1, bz_e0, bz_e1, bz_eqb, bz_or1, bz_True, bz_False, zor_i, zand_i, zxor_i, zandn_i, zandn_i2, zbit_i, ib_i, nB0, nB1, nBz, fk_T, fk_F, fk_pos, fk_neg, fk_same, fk_not, fk_and, fk_andn, fk_nand, fk_or, fkP10, fkP01, fkP0z, fkPz0, fkP1z, fkPz1, layStory hL', hS'.n, hS'.s1, q_Story_counts hL' hS' hO, q_Story_isUndone hL' hS' hO, ← hun, hb3]
    refine fk_in (fun e => ih _ (q.skip (fun p z => ?_) (fun l z => ?_))) (fun e => ?_)
    · obtain ⟨z1, z2, z3⟩ := z
      rcases e with e | e | e
      · omega
      · exact e ⟨z1.2.1, z1.1⟩
      · exact z1.2.2 e
    · obtain ⟨z0, z1, z2, z3⟩ := z
      rcases e with e | e | e
      · omega
      · exact e ⟨z1.2.1, z1.1⟩
      · exact z1.2.2 e
    · have e1 : ¬ S 1 (n : Int) = 3 := fun z => e (Or.inl z)
      have e2 : eff k S seen i u n := ⟨(Classical.not_not.mp (fun z => e (Or.inr (Or.inl z)))).2, (Classical.not_not.mp (fun z => e (Or.inr (Or.inl z)))).1, fun z => e (Or.inr (Or.inr z))⟩
      have ht : 0 ≤ tnS S (n : Int) ∧ tnS S (n : Int) < 100000 := by unfold tnS; omega
      rw [q_Story_apply hL' hb hS' hO ⟨by omega, by omega⟩ e1 q.2.2.2.2.1]
      show fk _ (fk (_ < tnS S n) _ _) (fk _ (fk (_ < tnS S n) _ _) _)
      have q0 := q
      obtain ⟨q1, q2, q3, q4, q5, q6, q7⟩ := q
      have stn : ∀ w, stnd S w (n : Int) = S w n := fun w => by unfold stnd; rw [if_neg (by omega)]
      have tln : tlast S (n : Int) = tnS S n := by unfold tlast; rw [if_neg (by omega)]
      refine fk_in (fun c0 => ?_) (fun c0 => ?_)
      · have hp : 0 ≤ S 2 (n : Int) ∧ S 2 (n : Int) < 6 := by omega
        have q3p := q3 _ hp.1 hp.2
        have nl : ∀ l, ¬ lwP k S seen mk i u l n := fun l z => by have := z.2.2.1; omega
        refine fk_in (fun c1 => ih _ ?_) (fun c1 => ih _ (q0.old (fun p z => ?_) (fun l z => absurd z (nl l))))
        · rw [q3p.1, tlast_lt ht.1] at c1
          refine ⟨((q1.sA (by omega)).sA (by omega)).sA (by omega), ((q2.sA (by omega)).sA (by omega)).sA (by omega), fun p h0 h1 => ?_, fun l h0 h1 => ?_, q5, q6, fun l h0 => ?_⟩
          · have r1 : -2147483648 ≤ S 5 (n : Int) * 3 + S 0 (n : Int) ∧ S 5 (n : Int) * 3 + S 0 (n : Int) < 2147483648 := by omega
            simp (disch := omega) only [ga_sa_ne, ga_sa]
            by_cases e : p = S 2 (n : Int)
            · rw [if_pos e, if_pos e, if_pos e]
              have : lastC (mvP k S seen i u p) (tnS S) (n + 1) = n := lastC_yes ⟨e2, c0, e.symm⟩ (by rw [e]; exact c1)
              rw [this, stn, stn, tln]
              exact ⟨rfl, rfl, rfl⟩
            · rw [if_neg e, if_neg e, if_neg e, lastC_no (fun z => e z.2.2.symm)]
              exact q3 p h0 h1
          · simp (disch := omega) only [ga_sa_ne]
            rw [lastC_no (nl l)]; exact q4 l h0 h1
          · rw [lastC_no (nl l)]; exact q7 l h0
        · rw [q3p.1, tlast_lt ht.1] at c1
          rw [← z.2.2]
          exact c1
      · have nm : ∀ p, ¬ mvP k S seen i u p n := fun l z => c0 z.2.1
        refine fk_in (fun c1 => ?_) (fun c1 => ih _ (q0.skip nm (fun l z => c1 z.1)))
        have hl : 0 ≤ S 2 (n : Int) ∧ S 2 (n : Int) < 12 := by omega
        have hlm := hT n c1 (by omega) (by omega)
        have q4p := q4 _ hl.1 hl.2
        have zb := zbit_lt (n := 12) hl.1 (by omega)
        refine fk_in (fun c2 => ?_) (fun c2 => ih _ (q0.old (fun p z => absurd z (nm p)) (fun l z => ?_)))
        · rw [q4p, tlast_lt ht.1] at c2
          have key : ∀ l, l = S 2 (n : Int) → lastC (lwP k S seen mk i u l) (tnS S) (n + 1) = n := fun l e => lastC_yes ⟨c1, e2, by omega, e.symm⟩ (by rw [e]; exact c2)
          have keyn : ∀ l, ¬ l = S 2 (n : Int) → lastC (lwP k S seen mk i u l) (tnS S) (n + 1) = lastC (lwP k S seen mk i u l) (tnS S) n := fun l e => lastC_no (fun z => e z.2.2.2.symm)
          have fin : ∀ v : Int, 0 ≤ v → v < 4096 → (∀ l : Int, 0 ≤ l → (ib v l ↔ l < m ∧ onAt S (lastC (lwP k S seen mk i u l) (tnS S) (n + 1)))) → PicN b k mk m i u S seen h (sf (sa h' (b + 4) (S 2 n) (S 5 n * 3 + S 0 n)) b 4 v) (n + 1) := by
            intro v v0 v1 v2
            refine ⟨(q1.sA (by omega)).sF (by rcases hb with rfl | rfl <;> rfl), (q2.sA (by omega)).sF (by omega), fun p h0 h1 => ?_, fun l h0 h1 => ?_, ?_, ?_, fun l h0 => ?_⟩
            · simp (disch := omega) only [ga_sf, ga_sa_ne]
              rw [lastC_no (nm p)]; exact q3 p h0 h1
            · have r1 : -2147483648 ≤ S 5 (n : Int) * 3 + S 0 (n : Int) ∧ S 5 (n : Int) * 3 + S 0 (n : Int) < 2147483648 := by omega
              simp (disch := omega) only [ga_sf, ga_sa]
              by_cases e : l = S 2 (n : Int)
              · rw [if_pos e, key l e, tln]; rfl
              · rw [if_neg e, keyn l e]; exact q4 l h0 h1
            · rw [gf_sf_eq (by omega) (by omega)]; exact v0
            · rw [gf_sf_eq (by omega) (by omega)]; exact v1
            · rw [gf_sf_eq (by omega) (by omega)]; exact v2 l h0
          refine fk_in (fun c3 => ih _ (fin _ zor_0 (zor_lt (n := 12) q6 zb q5 zbit_0) (fun l h0 => ?_))) (fun c3 => ih _ (fin _ zandn_0 (zandn_lt (n := 12) q6 q5) (fun l h0 => ?_)))
          · rw [ib_zor, ib_zbit hl.1 h0, q7 l h0]
            by_cases e : l = S 2 (n : Int)
            · rw [key l e]
              exact ⟨fun _ => ⟨by omega, Or.inr c3⟩, fun _ => Or.inr e⟩
            · rw [keyn l e]
              exact ⟨fun z => z.resolve_right e, fun z => Or.inl z⟩
          · rw [ib_zandn, ib_zbit hl.1 h0, q7 l h0]
            by_cases e : l = S 2 (n : Int)
            · rw [key l e]
              exact ⟨fun z => absurd e z.2, fun z => z.2.elim (fun w => by omega) (fun w => absurd w c3)⟩
            · rw [keyn l e]
              exact ⟨fun z => z.1, fun z => ⟨z, e⟩⟩
        · rw [q4p, tlast_lt ht.1] at c2
          rw [← z.2.2.2]
          exact c2
  · intro h' q
    have hS' := hS.fr q.2.1 (by omega)
    have hL' := q.1
    rw [e116_9]
    simp (disch := (first | assumption | omega | exact zor_0 | exact zand_0 | exact zandn_0 | exact zbit_0 | exact zxor_0 | exact (bz_01 _).1 | (repeat (first | assumption | refine Lay.sF ?_ rfl | refine Lay.sA ?_ (by decide) | refine Lay.iall ?_ (by decide) | refine Lay.sL ?_ | refine Lay.sFL ?_ (by decide))))) only [e116_0, e116_1, e116_3, e116_6, e116_7, e116_11, e116_12, e116_15, e116_18, e116_19, e116_22, e116_24, e116_25, e116_26, e116_29, e116_30, e116_32, e116_33, e116_34, e116_37, e116_40, e116_41, e116_43, e116_44, e116_45, e116_48, e116_51, e116_52, e116_53, e116_55, e116_58, e116_61, e116_64, ne_eq, not_false_eq_true, true_and, and_true, reduceCtorEq, Nat.reduceEqDiff, Nat.reduceAdd, Nat.reduceSub, Nat.reduceLeDiff, Nat.reduceLT, Int.reduceEq, Int.reduceLT, Int.reduceLE, Int.reduceNeg, Int.reduceAdd, Int.reduceSub, Int.reduceMul, Int.reduceToNat, Int.cast_ofNat_Int, Int.natCast_zero, Nat.le_refl, Nat.zero_le, if_true, if_false, ite_true, ite_false, and_self, and_false, false_and, or_true, true_or, or_false, false_or, not_true_eq_false, Classical.not_not, not_or, Int.not_lt, Int.not_le, a_clr, Option.toList_some, Option.toList_none, List.cons_append, List.nil_append, a_cw, List.map_cons, List.map_nil, List.sum_cons, List.sum_nil, Value.category, nar_b0, nar_b1, sh_sa, sh_sf, sh_sl, sh_sfl, a_sh_iall, a_fv_iall, fv_sa, fv_sl, fv_sf_eq, fv_sf_ne, fv_sfl_eq, fv_sfl_ne, ga_sf, ga_sl, ga_sfl, ga_sa_ne, ga_sa, ga_iall_ne, gf_sa, gf_iall, gf_sl, gf_sfl, gf_sf_ne, gf_sf_eq, gl_sa, gl_iall, gl_sf, gl_sl_ne, gl_sl, gfl_sa, gfl_iall, gfl_sl, gfl_sf, gfl_sfl_ne, gfl_sfl_eq, ld_a, ld_0, ld_1, ld_2, st_a, st_0, st_f, ld_l, st_l, st_fl, sa_sa, sf_sf, sfl_sfl, k_max, k_far, k_no, zadd, zsub, zmul, zneg, zmax, zmin, zabs, zltI, zleI, zeqI, zlt0I, zle0I, z0ltI, z0leI, zeq0I, ti_ga, ti_gf, ti_bz, ztoInt, zinT, zix, bz_eq0, bz_eq1, bz_e0, bz_e1, bz_eqb, bz_or1, bz_True, bz_False, zor_i, zand_i, zxor_i, zandn_i, zandn_i2, zbit_i, ib_i, nB0, nB1, nBz, fk_T, fk_F, fk_pos, fk_neg, fk_same, fk_not, fk_and, fk_andn, fk_nand, fk_or, fkP10, fkP01, fkP0z, fkPz0, fkP1z, fkPz1, layStory hL', hS'.n]
    have e : N = k.toNat := by omega
    obtain ⟨q1, q2, q3, q4, q5, q6, q7⟩ := q
    refine kk h' q1 q2 (fun p h0 h1 => ?_) q5 q6 (fun l h0 => ?_)
    · have := q3 p h0 h1
      rw [e] at this
      exact ⟨this.2.1, this.2.2⟩
    · have := q7 l h0
      rw [e] at this
      exact this
  · have := hA p h0 h1
    exact ⟨this.2.2, this.1, this.2.1⟩
  · exact hB l h0 h1
  · rw [hC, hal l h0]
    exact ⟨fun z => ⟨z, Or.inl rfl⟩, fun z => z.1⟩
end SHOW2
