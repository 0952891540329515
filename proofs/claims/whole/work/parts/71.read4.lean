/-! Reader: all LAWS -/
noncomputable def rall (T : Int → Int) (n : Int) : Nat → Int → Int → Int → (Nat → Int → Int) → Int ⊕ (Int × (Nat → Int → Int))
  | 0, p, _, i, W => if tK T n p = 0 then .inr (i, W) else .inl (tS T n p)
  | f + 1, p, c, i, W => if tK T n p = 0 then .inr (i, W) else match rl T n p c with
    | .inl e => .inl e
    | .inr (wd, x, y, g, wt, wh, p', c') => rall T n f p' c' (i + 1) (updW W i (lawF wd x y g wt wh))
def W0 : Nat → Int → Int := fun _ _ => 0
/-- LAWS read so far -/
def LwI (i c : Int) (W : Nat → Int → Int) : Prop := (∀ j, 0 ≤ j → j < i → 0 ≤ W 0 j ∧ W 0 j ≤ 5 ∧ 0 ≤ W 1 j ∧ W 1 j ≤ 5 ∧ 0 ≤ W 2 j ∧ W 2 j ≤ 5 ∧ ¬ W 1 j = W 2 j ∧ 0 ≤ W 3 j ∧ W 3 j ≤ 19 ∧ 0 ≤ W 4 j ∧ W 4 j ≤ 9 ∧ 0 ≤ W 5 j ∧ W 5 j ≤ 20) ∧ wcnt W i.toNat = c
section RLF
variable {T : Int → Int} {n p c e : Int}
theorem tS_r (hO : TxO n T) (hp : 0 ≤ p ∧ p ≤ n) : 0 ≤ tS T n p ∧ tS T n p ≤ n := ⟨(tk_r hO hp.1 hp.2).1, (tk_r hO hp.1 hp.2).2.1⟩
theorem tN_r (hO : TxO n T) (hp : 0 ≤ p ∧ p ≤ n) : 0 ≤ tN T n p ∧ tN T n p ≤ n := ⟨(tk_r hO hp.1 hp.2).2.2.1, (tk_r hO hp.1 hp.2).2.2.2.1⟩
theorem stopP_f {a b g : Int} (hO : TxO n T) (hp : 0 ≤ p ∧ p ≤ n) (h : stopP T n p a b g = .inl e) : 0 ≤ e ∧ e ≤ n := by
  unfold stopP at h
  split at h
  · cases h
  · cases h; exact tS_r hO hp
theorem gapP_f {a b g : Int} (hO : TxO n T) (hp : 0 ≤ p ∧ p ≤ n) (h : gapP T n p a b g = .inl e) : 0 ≤ e ∧ e ≤ n := by
  unfold gapP at h
  split at h
  · split at h
    · exact stopP_f hO (tN_r hO hp) h
    · cases h; exact tS_r hO hp
  · exact stopP_f hO hp h
theorem endsP_f {wd : Int} (hO : TxO n T) (hp : 0 ≤ p ∧ p ≤ n) (h : endsP T n p wd = .inl e) : 0 ≤ e ∧ e ≤ n := by
  unfold endsP at h
  split at h
  · split at h
    · exact gapP_f hO (tN_r hO (tN_r hO hp)) h
    · cases h; exact tS_r hO (tN_r hO hp)
  · cases h; exact tS_r hO hp
theorem wherP_s {wh p' : Int} (hO : TxO n T) (hp : 0 ≤ p ∧ p ≤ n) (h : wherP T n p = .inr (wh, p')) : 0 ≤ p' ∧ p' ≤ n := by
  unfold wherP at h
  split at h
  · split at h
    · cases h; exact tN_r hO (tN_r hO hp)
    · cases h
  · cases h; exact hp
theorem wishP_s {wt p' c' : Int} (hO : TxO n T) (hp : 0 ≤ p ∧ p ≤ n) (h : wishP T n p c = .inr (wt, p', c')) : 0 ≤ p' ∧ p' ≤ n := by
  unfold wishP at h
  split at h
  · split at h
    · cases h
    · split at h
      · cases h; exact tN_r hO (tN_r hO hp)
      · cases h
  · cases h; exact hp
theorem rl_f (hO : TxO n T) (hp : 0 ≤ p ∧ p ≤ n) (h : rl T n p c = .inl e) : 0 ≤ e ∧ e ≤ n := by
  unfold rl at h
  split at h
  · rename_i e1 hw
    cases h
    unfold wishP at hw
    split at hw
    · split at hw
      · cases hw; exact tS_r hO hp
      · split at hw
        · cases hw
        · cases hw; exact tS_r hO (tN_r hO hp)
    · cases hw
  · rename_i wt p1 c1 hw
    have hp1 := wishP_s hO hp hw
    split at h
    · rename_i e1 hw2
      cases h
      unfold wherP at hw2
      split at hw2
      · split at hw2
        · cases hw2
        · cases hw2; exact tS_r hO (tN_r hO hp1)
      · cases hw2
    · rename_i wh p2 hw2
      have hp2 := wherP_s hO hp1 hw2
      split at h
      · split at h
        · rename_i e1 he
          cases h
          exact endsP_f hO (tN_r hO hp2) he
        · cases h
      · cases h; exact tS_r hO hp2
end RLF
section READ4
variable {d : Nat} {h0 h : aH} {post : Option Value → aH → Prop} {T : Int → Int} {n p c : Int} {dr : Nat} {W : Nat → Int → Int} {i : Int}
theorem wcnt_congr {W W' : Nat → Int → Int} : ∀ m : Nat, (∀ j : Int, 0 ≤ j → j < m → W 4 j = W' 4 j) → wcnt W m = wcnt W' m := by
  intro m
  induction m with
  | zero => intro _; rfl
  | succ m ih => intro hh; simp only [wcnt]; rw [ih (fun j a b => hh j a (by omega)), hh m (by omega) (by omega)]
theorem LwI.step {wd x y g wt wh p' : Int} (q : LwI i c W) (hi : 0 ≤ i) (hl : lawOk n wd x y g wt wh p') : LwI (i + 1) (c + bz (¬ wt = 0)) (updW W i (lawF wd x y g wt wh)) := by
  obtain ⟨l0, l1, l2, l3, l4, l5, l6, _⟩ := hl
  refine ⟨fun j j0 j1 => ?_, ?_⟩
  · simp only [updW]
    by_cases e : j = i
    · simp only [if_pos e, lawF]
      exact ⟨l0.1, l0.2, l1.1, l1.2, l2.1, l2.2, l3, l4.1, l4.2, l5.1, l5.2, l6.1, l6.2⟩
    · simp only [if_neg e]
      exact q.1 j j0 (by omega)
  · rw [show (i + 1).toNat = i.toNat + 1 by omega]
    simp only [wcnt]
    rw [wcnt_congr (W' := W) i.toNat (fun j a b => by simp only [updW]; rw [if_neg (by omega)]), q.2]
    congr 2
    simp only [updW]
    rw [if_pos (by omega)]
    rfl
theorem c_rd_all (hC : TxC h0 n T) (hO : TxO n T) (hd : dr = 59 ∨ dr = 66) : ∀ (f : Nat) (i p c : Int) (W : Nat → Int → Int) (h : aH), i + f = 12 → 0 ≤ i → RdC h0 h dr T n p c → 0 ≤ p ∧ p ≤ n → 0 ≤ c ∧ c ≤ 6 → LwC h dr i W → LwI i c W → (∀ e h', rall T n f p c i W = .inl e → RdF h0 h' dr n e → 0 ≤ e ∧ e ≤ 400 → post (some (.int (I e))) h') → (∀ m W' h', rall T n f p c i W = .inr (m, W') → Lay h' → FrD dr h0 h' → gf h' 1 1 = n → LwC h' dr m W' → LwO m W' → post (some (.int (I (-1)))) h') → R (d + 10) 0 0 82 20 [.ref 1, .ref dr, .int (I i)] [] h post := by
  have hn := hO.1
  have hr3 : ¬ dr = 1003 := by omega
  have ok : ∀ {i c : Int} {W : Nat → Int → Int}, 0 ≤ i → i ≤ 12 → 0 ≤ c ∧ c ≤ 6 → LwI i c W → LwO i W := fun a b e q => ⟨⟨a, b⟩, q.1, by rw [q.2]; exact e.2⟩
  intro f
  induction f with
  | zero =>
    intro i p c W h hi i0 q hp hc hW hI kF kS
    have hL := q.1
    have tk := q.2.2.2.2.2.2.1
    have ts := q.2.2.2.2.1
    have tr := tk_r hO hp.1 hp.2
    have kr : 0 ≤ tK T n p ∧ tK T n p ≤ 5 := ⟨tr.2.2.2.2.1, tr.2.2.2.2.2.1⟩
    have sr : 0 ≤ tS T n p ∧ tS T n p ≤ n := ⟨tr.1, tr.2.1⟩
    clear tr
    obtain rfl : i = 12 := by omega
    rw [e82_20]
    by_cases e : tK T n p = 0
    · simp (disch := (first | assumption | omega | exact zor_0 | exact zand_0 | exact zandn_0 | exact zbit_0 | exact zxor_0 | exact (bz_01 _).1 | (repeat (first | assumption | refine Lay.sF ?_ rfl | refine Lay.sA ?_ (by decide) | refine Lay.iall ?_ (by decide) | refine Lay.sL ?_ | refine Lay.sFL ?_ (by decide))))) only [e82_0, e82_1, e82_4, e82_5, e82_6, e82_9, e82_10, e82_11, e82_14, e82_15, e82_18, e82_19, e82_21, e82_23, e82_26, e82_27, e82_30, e82_33, e82_34, e82_35, e82_38, e82_41, e82_42, e82_45, e82_46, e82_49, e82_52, e82_53, e82_56, e82_59, e82_60, e82_63, e82_64, e82_67, ne_eq, not_false_eq_true, true_and, and_true, reduceCtorEq, Nat.reduceEqDiff, Nat.reduceAdd, Nat.reduceSub, Nat.reduceLeDiff, Nat.reduceLT, Int.reduceEq, Int.reduceLT, Int.reduceLE, Int.reduceNeg, Int.reduceAdd, Int.reduceSub, Int.reduceMul, Int.reduceToNat, Int.cast_ofNat_Int, Int.natCast_zero, Nat.le_refl, Nat.zero_le, if_true, if_false, ite_true, ite_false, and_self, and_false, false_and, or_true, true_or, or_false, false_or, not_true_eq_false, Classical.not_not, not_or, Int.not_lt, Int.not_le, a_clr, Option.toList_some, Option.toList_none, List.cons_append, List.nil_append, a_cw, List.map_cons, List.map_nil, List.sum_cons, List.sum_nil, Value.category, nar_b0, nar_b1, sh_sa, sh_sf, sh_sl, sh_sfl, a_sh_iall, a_fv_iall, fv_sa, fv_sl, fv_sf_eq, fv_sf_ne, fv_sfl_eq, fv_sfl_ne, ga_sf, ga_sl, ga_sfl, ga_sa_ne, ga_sa, ga_iall_ne, gf_sa, gf_iall, gf_sl, gf_sfl, gf_sf_ne, gf_sf_eq, gl_sa, gl_iall, gl_sf, gl_sl_ne, gl_sl, gfl_sa, gfl_iall, gfl_sl, gfl_sf, gfl_sfl_ne, gfl_sfl_eq, ld_a, ld_0, ld_1, ld_2, st_a, st_0, st_f, ld_l, st_l, st_fl, sa_sa, sf_sf, sfl_sfl, k_max, k_far, k_no, zadd, zsub, zmul, zneg, zmax, zmin, zabs, zltI, zleI, zeqI, zlt0I, zle0I, z0ltI, z0leI, zeq0I, ti_ga, ti_gf, ti_bz, ztoInt, zinT, zix, bz_eq0, bz_eq1, bz_e0, bz_e1, bz_eqb, bz_or1, bz_True, bz_False, zor_i, zand_i, zxor_i, zandn_i, zandn_i2, zbit_i, ib_i, nB0, nB1, nBz, fk_T, fk_F, fk_pos, fk_neg, fk_same, fk_not, fk_and, fk_andn, fk_nand, fk_or, fkP10, fkP01, fkP0z, fkPz0, fkP1z, fkPz1, layReader hL, tk, e]
      exact kS 12 W h (by simp only [rall]; rw [if_pos e]) hL q.2.1 q.2.2.1 hW (ok i0 (by omega) hc hI)
    · simp (disch := (first | assumption | omega | exact zor_0 | exact zand_0 | exact zandn_0 | exact zbit_0 | exact zxor_0 | exact (bz_01 _).1 | (repeat (first | assumption | refine Lay.sF ?_ rfl | refine Lay.sA ?_ (by decide) | refine Lay.iall ?_ (by decide) | refine Lay.sL ?_ | refine Lay.sFL ?_ (by decide))))) only [e82_0, e82_1, e82_4, e82_5, e82_6, e82_9, e82_10, e82_11, e82_14, e82_15, e82_18, e82_19, e82_21, e82_23, e82_26, e82_27, e82_30, e82_33, e82_34, e82_35, e82_38, e82_41, e82_42, e82_45, e82_46, e82_49, e82_52, e82_53, e82_56, e82_59, e82_60, e82_63, e82_64, e82_67, ne_eq, not_false_eq_true, true_and, and_true, reduceCtorEq, Nat.reduceEqDiff, Nat.reduceAdd, Nat.reduceSub, Nat.reduceLeDiff, Nat.reduceLT, Int.reduceEq, Int.reduceLT, Int.reduceLE, Int.reduceNeg, Int.reduceAdd, Int.reduceSub, Int.reduceMul, Int.reduceToNat, Int.cast_ofNat_Int, Int.natCast_zero, Nat.le_refl, Nat.zero_le, if_true, if_false, ite_true, ite_false, and_self, and_false, false_and, or_true, true_or, or_false, false_or, not_true_eq_false, Classical.not_not, not_or, Int.not_lt, Int.not_le, a_clr, Option.toList_some, Option.toList_none, List.cons_append, List.nil_append, a_cw, List.map_cons, List.map_nil, List.sum_cons, List.sum_nil, Value.category, nar_b0, nar_b1, sh_sa, sh_sf, sh_sl, sh_sfl, a_sh_iall, a_fv_iall, fv_sa, fv_sl, fv_sf_eq, fv_sf_ne, fv_sfl_eq, fv_sfl_ne, ga_sf, ga_sl, ga_sfl, ga_sa_ne, ga_sa, ga_iall_ne, gf_sa, gf_iall, gf_sl, gf_sfl, gf_sf_ne, gf_sf_eq, gl_sa, gl_iall, gl_sf, gl_sl_ne, gl_sl, gfl_sa, gfl_iall, gfl_sl, gfl_sf, gfl_sfl_ne, gfl_sfl_eq, ld_a, ld_0, ld_1, ld_2, st_a, st_0, st_f, ld_l, st_l, st_fl, sa_sa, sf_sf, sfl_sfl, k_max, k_far, k_no, zadd, zsub, zmul, zneg, zmax, zmin, zabs, zltI, zleI, zeqI, zlt0I, zle0I, z0ltI, z0leI, zeq0I, ti_ga, ti_gf, ti_bz, ztoInt, zinT, zix, bz_eq0, bz_eq1, bz_e0, bz_e1, bz_eqb, bz_or1, bz_True, bz_False, zor_i, zand_i, zxor_i, zandn_i, zandn_i2, zbit_i, ib_i, nB0, nB1, nBz, fk_T, fk_F, fk_pos, fk_neg, fk_same, fk_not, fk_and, fk_andn, fk_nand, fk_or, fkP10, fkP01, fkP0z, fkPz0, fkP1z, fkPz1, layReader hL, tk, ts, e]
      exact kF _ h (by simp only [rall]; rw [if_neg e]) q.fl (by omega)
  | succ f ih =>
    intro i p c W h hi i0 q hp hc hW hI kF kS
    have hL := q.1
    have tk := q.2.2.2.2.2.2.1
    have tr := tk_r hO hp.1 hp.2
    have kr : 0 ≤ tK T n p ∧ tK T n p ≤ 5 := ⟨tr.2.2.2.2.1, tr.2.2.2.2.2.1⟩
    clear tr
    rw [e82_20]
    by_cases e : tK T n p = 0
    · simp (disch := (first | assumption | omega | exact zor_0 | exact zand_0 | exact zandn_0 | exact zbit_0 | exact zxor_0 | exact (bz_01 _).1 | (repeat (first | assumption | refine Lay.sF ?_ rfl | refine Lay.sA ?_ (by decide) | refine Lay.iall ?_ (by decide) | refine Lay.sL ?_ | refine Lay.sFL ?_ (by decide))))) only [e82_0, e82_1, e82_4, e82_5, e82_6, e82_9, e82_10, e82_11, e82_14, e82_15, e82_18, e82_19, e82_21, e82_23, e82_26, e82_27, e82_30, e82_33, e82_34, e82_35, e82_38, e82_41, e82_42, e82_45, e82_46, e82_49, e82_52, e82_53, e82_56, e82_59, e82_60, e82_63, e82_64, e82_67, ne_eq, not_false_eq_true, true_and, and_true, reduceCtorEq, Nat.reduceEqDiff, Nat.reduceAdd, Nat.reduceSub, Nat.reduceLeDiff, Nat.reduceLT, Int.reduceEq, Int.reduceLT, Int.reduceLE, Int.reduceNeg, Int.reduceAdd, Int.reduceSub, Int.reduceMul, Int.reduceToNat, Int.cast_ofNat_Int, Int.natCast_zero, Nat.le_refl, Nat.zero_le, if_true, if_false, ite_true, ite_false, and_self, and_false, false_and, or_true, true_or, or_false, false_or, not_true_eq_false, Classical.not_not, not_or, Int.not_lt, Int.not_le, a_clr, Option.toList_some, Option.toList_none, List.cons_append, List.nil_append, a_cw, List.map_cons, List.map_nil, List.sum_cons, List.sum_nil, Value.category, nar_b0, nar_b1, sh_sa, sh_sf, sh_sl, sh_sfl, a_sh_iall, a_fv_iall, fv_sa, fv_sl, fv_sf_eq, fv_sf_ne, fv_sfl_eq, fv_sfl_ne, ga_sf, ga_sl, ga_sfl, ga_sa_ne, ga_sa, ga_iall_ne, gf_sa, gf_iall, gf_sl, gf_sfl, gf_sf_ne, gf_sf_eq, gl_sa, gl_iall, gl_sf, gl_sl_ne, gl_sl, gfl_sa, gfl_iall, gfl_sl, gfl_sf, gfl_sfl_ne, gfl_sfl_eq, ld_a, ld_0, ld_1, ld_2, st_a, st_0, st_f, ld_l, st_l, st_fl, sa_sa, sf_sf, sfl_sfl, k_max, k_far, k_no, zadd, zsub, zmul, zneg, zmax, zmin, zabs, zltI, zleI, zeqI, zlt0I, zle0I, z0ltI, z0leI, zeq0I, ti_ga, ti_gf, ti_bz, ztoInt, zinT, zix, bz_eq0, bz_eq1, bz_e0, bz_e1, bz_eqb, bz_or1, bz_True, bz_False, zor_i, zand_i, zxor_i, zandn_i, zandn_i2, zbit_i, ib_i, nB0, nB1, nBz, fk_T, fk_F, fk_pos, fk_neg, fk_same, fk_not, fk_and, fk_andn, fk_nand, fk_or, fkP10, fkP01, fkP0z, fkPz0, fkP1z, fkPz1, layReader hL, tk, e]
      exact kS i W h (by simp only [rall]; rw [if_pos e]) hL q.2.1 q.2.2.1 hW (ok i0 (by omega) hc hI)
    · have i12 : i < 12 := by omega
      simp (disch := (first | assumption | omega | exact zor_0 | exact zand_0 | exact zandn_0 | exact zbit_0 | exact zxor_0 | exact (bz_01 _).1 | (repeat (first | assumption | refine Lay.sF ?_ rfl | refine Lay.sA ?_ (by decide) | refine Lay.iall ?_ (by decide) | refine Lay.sL ?_ | refine Lay.sFL ?_ (by decide))))) only [e82_0, e82_1, e82_4, e82_5, e82_6, e82_9, e82_10, e82_11, e82_14, e82_15, e82_18, e82_19, e82_21, e82_23, e82_26, e82_27, e82_30, e82_33, e82_34, e82_35, e82_38, e82_41, e82_42, e82_45, e82_46, e82_49, e82_52, e82_53, e82_56, e82_59, e82_60, e82_63, e82_64, e82_67, ne_eq, not_false_eq_true, true_and, and_true, reduceCtorEq, Nat.reduceEqDiff, Nat.reduceAdd, Nat.reduceSub, Nat.reduceLeDiff, Nat.reduceLT, Int.reduceEq, Int.reduceLT, Int.reduceLE, Int.reduceNeg, Int.reduceAdd, Int.reduceSub, Int.reduceMul, Int.reduceToNat, Int.cast_ofNat_Int, Int.natCast_zero, Nat.le_refl, Nat.zero_le, if_true, if_false, ite_true, ite_false, and_self, and_false, false_and, or_true, true_or, or_false, false_or, not_true_eq_false, Classical.not_not, not_or, Int.not_lt, Int.not_le, a_clr, Option.toList_some, Option.toList_none, List.cons_append, List.nil_append, a_cw, List.map_cons, List.map_nil, List.sum_cons, List.sum_nil, Value.category, nar_b0, nar_b1, sh_sa, sh_sf, sh_sl, sh_sfl, a_sh_iall, a_fv_iall, fv_sa, fv_sl, fv_sf_eq, fv_sf_ne, fv_sfl_eq, fv_sfl_ne, ga_sf, ga_sl, ga_sfl, ga_sa_ne, ga_sa, ga_iall_ne, gf_sa, gf_iall, gf_sl, gf_sfl, gf_sf_ne, gf_sf_eq, gl_sa, gl_iall, gl_sf, gl_sl_ne, gl_sl, gfl_sa, gfl_iall, gfl_sl, gfl_sf, gfl_sfl_ne, gfl_sfl_eq, ld_a, ld_0, ld_1, ld_2, st_a, st_0, st_f, ld_l, st_l, st_fl, sa_sa, sf_sf, sfl_sfl, k_max, k_far, k_no, zadd, zsub, zmul, zneg, zmax, zmin, zabs, zltI, zleI, zeqI, zlt0I, zle0I, z0ltI, z0leI, zeq0I, ti_ga, ti_gf, ti_bz, ztoInt, zinT, zix, bz_eq0, bz_eq1, bz_e0, bz_e1, bz_eqb, bz_or1, bz_True, bz_False, zor_i, zand_i, zxor_i, zandn_i, zandn_i2, zbit_i, ib_i, nB0, nB1, nBz, fk_T, fk_F, fk_pos, fk_neg, fk_same, fk_not, fk_and, fk_andn, fk_nand, fk_or, fkP10, fkP01, fkP0z, fkPz0, fkP1z, fkPz1, layReader hL, tk, e, hr3]
      refine c_Reader_readLaw q hC hO hd hp hW ⟨i0, i12⟩ hc (fun e1 h' a1 a2 => ?_) (fun wd x y g wt wh p' c' h' a1 a2 a3 a4 a5 a6 => ?_)
      · have hL' := a2.1
        have ts := a2.2.2.2
        have er : 0 ≤ e1 ∧ e1 ≤ 400 := by have := rl_f hO hp a1; omega
        simp (disch := (first | assumption | omega | exact zor_0 | exact zand_0 | exact zandn_0 | exact zbit_0 | exact zxor_0 | exact (bz_01 _).1 | (repeat (first | assumption | refine Lay.sF ?_ rfl | refine Lay.sA ?_ (by decide) | refine Lay.iall ?_ (by decide) | refine Lay.sL ?_ | refine Lay.sFL ?_ (by decide))))) only [e82_0, e82_1, e82_4, e82_5, e82_6, e82_9, e82_10, e82_11, e82_14, e82_15, e82_18, e82_19, e82_21, e82_23, e82_26, e82_27, e82_30, e82_33, e82_34, e82_35, e82_38, e82_41, e82_42, e82_45, e82_46, e82_49, e82_52, e82_53, e82_56, e82_59, e82_60, e82_63, e82_64, e82_67, ne_eq, not_false_eq_true, true_and, and_true, reduceCtorEq, Nat.reduceEqDiff, Nat.reduceAdd, Nat.reduceSub, Nat.reduceLeDiff, Nat.reduceLT, Int.reduceEq, Int.reduceLT, Int.reduceLE, Int.reduceNeg, Int.reduceAdd, Int.reduceSub, Int.reduceMul, Int.reduceToNat, Int.cast_ofNat_Int, Int.natCast_zero, Nat.le_refl, Nat.zero_le, if_true, if_false, ite_true, ite_false, and_self, and_false, false_and, or_true, true_or, or_false, false_or, not_true_eq_false, Classical.not_not, not_or, Int.not_lt, Int.not_le, a_clr, Option.toList_some, Option.toList_none, List.cons_append, List.nil_append, a_cw, List.map_cons, List.map_nil, List.sum_cons, List.sum_nil, Value.category, nar_b0, nar_b1, sh_sa, sh_sf, sh_sl, sh_sfl, a_sh_iall, a_fv_iall, fv_sa, fv_sl, fv_sf_eq, fv_sf_ne, fv_sfl_eq, fv_sfl_ne, ga_sf, ga_sl, ga_sfl, ga_sa_ne, ga_sa, ga_iall_ne, gf_sa, gf_iall, gf_sl, gf_sfl, gf_sf_ne, gf_sf_eq, gl_sa, gl_iall, gl_sf, gl_sl_ne, gl_sl, gfl_sa, gfl_iall, gfl_sl, gfl_sf, gfl_sfl_ne, gfl_sfl_eq, ld_a, ld_0, ld_1, ld_2, st_a, st_0, st_f, ld_l, st_l, st_fl, sa_sa, sf_sf, sfl_sfl, k_max, k_far, k_no, zadd, zsub, zmul, zneg, zmax, zmin, zabs, zltI, zleI, zeqI, zlt0I, zle0I, z0ltI, z0leI, zeq0I, ti_ga, ti_gf, ti_bz, ztoInt, zinT, zix, bz_eq0, bz_eq1, bz_e0, bz_e1, bz_eqb, bz_or1, bz_True, bz_False, zor_i, zand_i, zxor_i, zandn_i, zandn_i2, zbit_i, ib_i, nB0, nB1, nBz, fk_T, fk_F, fk_pos, fk_neg, fk_same, fk_not, fk_and, fk_andn, fk_nand, fk_or, fkP10, fkP01, fkP0z, fkPz0, fkP1z, fkPz1, layReader hL', ts]
        exact kF e1 h' (by simp only [rall]; rw [if_neg e, a1]) a2 er
      · have er : rall T n (f + 1) p c i W = rall T n f p' c' (i + 1) (updW W i (lawF wd x y g wt wh)) := by simp only [rall]; rw [if_neg e, a1]
        rw [er] at kF kS
        have hl8 := a4.2.2.2.2.2.2.2
        simp (disch := (first | assumption | omega | exact zor_0 | exact zand_0 | exact zandn_0 | exact zbit_0 | exact zxor_0 | exact (bz_01 _).1 | (repeat (first | assumption | refine Lay.sF ?_ rfl | refine Lay.sA ?_ (by decide) | refine Lay.iall ?_ (by decide) | refine Lay.sL ?_ | refine Lay.sFL ?_ (by decide))))) only [e82_0, e82_1, e82_4, e82_5, e82_6, e82_9, e82_10, e82_11, e82_14, e82_15, e82_18, e82_19, e82_21, e82_23, e82_26, e82_27, e82_30, e82_33, e82_34, e82_35, e82_38, e82_41, e82_42, e82_45, e82_46, e82_49, e82_52, e82_53, e82_56, e82_59, e82_60, e82_63, e82_64, e82_67, ne_eq, not_false_eq_true, true_and, and_true, reduceCtorEq, Nat.reduceEqDiff, Nat.reduceAdd, Nat.reduceSub, Nat.reduceLeDiff, Nat.reduceLT, Int.reduceEq, Int.reduceLT, Int.reduceLE, Int.reduceNeg, Int.reduceAdd, Int.reduceSub, Int.reduceMul, Int.reduceToNat, Int.cast_ofNat_Int, Int.natCast_zero, Nat.le_refl, Nat.zero_le, if_true, if_false, ite_true, ite_false, and_self, and_false, false_and, or_true, true_or, or_false, false_or, not_true_eq_false, Classical.not_not, not_or, Int.not_lt, Int.not_le, a_clr, Option.toList_some, Option.toList_none, List.cons_append, List.nil_append, a_cw, List.map_cons, List.map_nil, List.sum_cons, List.sum_nil, Value.category, nar_b0, nar_b1, sh_sa, sh_sf, sh_sl, sh_sfl, a_sh_iall, a_fv_iall, fv_sa, fv_sl, fv_sf_eq, fv_sf_ne, fv_sfl_eq, fv_sfl_ne, ga_sf, ga_sl, ga_sfl, ga_sa_ne, ga_sa, ga_iall_ne, gf_sa, gf_iall, gf_sl, gf_sfl, gf_sf_ne, gf_sf_eq, gl_sa, gl_iall, gl_sf, gl_sl_ne, gl_sl, gfl_sa, gfl_iall, gfl_sl, gfl_sf, gfl_sfl_ne, gfl_sfl_eq, ld_a, ld_0, ld_1, ld_2, st_a, st_0, st_f, ld_l, st_l, st_fl, sa_sa, sf_sf, sfl_sfl, k_max, k_far, k_no, zadd, zsub, zmul, zneg, zmax, zmin, zabs, zltI, zleI, zeqI, zlt0I, zle0I, z0ltI, z0leI, zeq0I, ti_ga, ti_gf, ti_bz, ztoInt, zinT, zix, bz_eq0, bz_eq1, bz_e0, bz_e1, bz_eqb, bz_or1, bz_True, bz_False, zor_i, zand_i, zxor_i, zandn_i, zandn_i2, zbit_i, ib_i, nB0, nB1, nBz, fk_T, fk_F, fk_pos, fk_neg, fk_same, fk_not, fk_and, fk_andn, fk_nand, fk_or, fkP10, fkP01, fkP0z, fkPz0, fkP1z, fkPz1]
        exact ih (i + 1) p' c' _ h' (by omega) (by omega) a2 hl8 a6 a3 (by rw [a5]; exact hI.step i0 a4) kF kS
theorem c_Reader_readInto (hL : Lay h) (hC : TxC h n T) (hO : TxO n T) (hd : dr = 59 ∨ dr = 66) (kF : ∀ e h', rall T n 12 0 0 0 W0 = .inl e → RdF h h' dr n e → 0 ≤ e ∧ e ≤ 400 → post (some (.int (I e))) h') (kS : ∀ m W' h', rall T n 12 0 0 0 W0 = .inr (m, W') → Lay h' → FrD dr h h' → gf h' 1 1 = n → LwC h' dr m W' → LwO m W' → post (some (.int (I (-1)))) h') : R (d + 10) 0 0 82 0 [.ref 1, .ref dr, .null] [] h post := by
  have hn := hO.1
  have hr3 : ¬ dr = 1003 := by omega
  have hL1 : Lay (sf (sf (sf (sf h dr 6 0) dr 7 0) dr 8 0) dr 9 0) := (((hL.sFb hd (by decide)).sFb hd (by decide)).sFb hd (by decide)).sFb hd (by decide)
  have hL2 : Lay (sf (sf (sf (sf (sf (sf h dr 6 0) dr 7 0) dr 8 0) dr 9 0) 1 6 0) 1 2 0) := (hL1.sF rfl).sF rfl
  have qe := fun post => q_Laws_empty (d := d + 9) (post := post) hL hd
  simp (disch := (first | assumption | omega | exact zor_0 | exact zand_0 | exact zandn_0 | exact zbit_0 | exact zxor_0 | exact (bz_01 _).1 | (repeat (first | assumption | refine Lay.sF ?_ rfl | refine Lay.sA ?_ (by decide) | refine Lay.iall ?_ (by decide) | refine Lay.sL ?_ | refine Lay.sFL ?_ (by decide))))) only [e82_0, e82_1, e82_4, e82_5, e82_6, e82_9, e82_10, e82_11, e82_14, e82_15, e82_18, e82_19, e82_21, e82_23, e82_26, e82_27, e82_30, e82_33, e82_34, e82_35, e82_38, e82_41, e82_42, e82_45, e82_46, e82_49, e82_52, e82_53, e82_56, e82_59, e82_60, e82_63, e82_64, e82_67, ne_eq, not_false_eq_true, true_and, and_true, reduceCtorEq, Nat.reduceEqDiff, Nat.reduceAdd, Nat.reduceSub, Nat.reduceLeDiff, Nat.reduceLT, Int.reduceEq, Int.reduceLT, Int.reduceLE, Int.reduceNeg, Int.reduceAdd, Int.reduceSub, Int.reduceMul, Int.reduceToNat, Int.cast_ofNat_Int, Int.natCast_zero, Nat.le_refl, Nat.zero_le, if_true, if_false, ite_true, ite_false, and_self, and_false, false_and, or_true, true_or, or_false, false_or, not_true_eq_false, Classical.not_not, not_or, Int.not_lt, Int.not_le, a_clr, Option.toList_some, Option.toList_none, List.cons_append, List.nil_append, a_cw, List.map_cons, List.map_nil, List.sum_cons, List.sum_nil, Value.category, nar_b0, nar_b1, sh_sa, sh_sf, sh_sl, sh_sfl, a_sh_iall, a_fv_iall, fv_sa, fv_sl, fv_sf_eq, fv_sf_ne, fv_sfl_eq, fv_sfl_ne, ga_sf, ga_sl, ga_sfl, ga_sa_ne, ga_sa, ga_iall_ne, gf_sa, gf_iall, gf_sl, gf_sfl, gf_sf_ne, gf_sf_eq, gl_sa, gl_iall, gl_sf, gl_sl_ne, gl_sl, gfl_sa, gfl_iall, gfl_sl, gfl_sf, gfl_sfl_ne, gfl_sfl_eq, ld_a, ld_0, ld_1, ld_2, st_a, st_0, st_f, ld_l, st_l, st_fl, sa_sa, sf_sf, sfl_sfl, k_max, k_far, k_no, zadd, zsub, zmul, zneg, zmax, zmin, zabs, zltI, zleI, zeqI, zlt0I, zle0I, z0ltI, z0leI, zeq0I, ti_ga, ti_gf, ti_bz, ztoInt, zinT, zix, bz_eq0, bz_eq1, bz_e0, bz_e1, bz_eqb, bz_or1, bz_True, bz_False, zor_i, zand_i, zxor_i, zandn_i, zandn_i2, zbit_i, ib_i, nB0, nB1, nBz, fk_T, fk_F, fk_pos, fk_neg, fk_same, fk_not, fk_and, fk_andn, fk_nand, fk_or, fkP10, fkP01, fkP0z, fkPz0, fkP1z, fkPz1, (layLaws hL hd).1, hr3, qe, layReader hL1]
  have g1 : gf (sf (sf (sf (sf (sf (sf h dr 6 0) dr 7 0) dr 8 0) dr 9 0) 1 6 0) 1 2 0) 1 1 = n := by
    simp (disch := omega) only [gf_sf_ne]; exact hC.1
  have f2 : FrD dr h (sf (sf (sf (sf (sf (sf h dr 6 0) dr 7 0) dr 8 0) dr 9 0) 1 6 0) 1 2 0) := (FrD.id.t2 ((((Fr.id.sF (by omega)).sF (by omega)).sF (by omega)).sF (by omega))).t1 ((Fr.id.sF (by omega)).sF (by omega))
  refine c_Reader_advance hL2 ⟨g1, fun j j0 j1 => hC.2 j j0 j1⟩ hO (gf_sf_eq (by omega) (by omega)) (by omega) hn.1 (fun h' a1 a2 a3 a4 a5 => ?_)
  have q : RdC h h' dr T n 0 0 := ⟨a1, f2.t1 a2, a3.trans g1, a4.trans (by simp (disch := omega) only [gf_sf_ne, gf_sf_eq]), a5⟩
  have hW : LwC h' dr 0 W0 := by
    refine ⟨hd, ?_, fun i j0 j1 => by omega, ?_, ?_, ?_⟩
    · rw [a2.fg (by omega)]; simp (disch := omega) only [gf_sf_ne, gf_sf_eq]
    · rw [a2.fg (by omega)]; simp (disch := omega) only [gf_sf_ne, gf_sf_eq]; rfl
    · rw [a2.fg (by omega)]; simp (disch := omega) only [gf_sf_ne, gf_sf_eq]; rfl
    · rw [a2.fg (by omega)]; simp (disch := omega) only [gf_sf_ne, gf_sf_eq]; rfl
  simp (disch := (first | assumption | omega | exact zor_0 | exact zand_0 | exact zandn_0 | exact zbit_0 | exact zxor_0 | exact (bz_01 _).1 | (repeat (first | assumption | refine Lay.sF ?_ rfl | refine Lay.sA ?_ (by decide) | refine Lay.iall ?_ (by decide) | refine Lay.sL ?_ | refine Lay.sFL ?_ (by decide))))) only [e82_0, e82_1, e82_4, e82_5, e82_6, e82_9, e82_10, e82_11, e82_14, e82_15, e82_18, e82_19, e82_21, e82_23, e82_26, e82_27, e82_30, e82_33, e82_34, e82_35, e82_38, e82_41, e82_42, e82_45, e82_46, e82_49, e82_52, e82_53, e82_56, e82_59, e82_60, e82_63, e82_64, e82_67, ne_eq, not_false_eq_true, true_and, and_true, reduceCtorEq, Nat.reduceEqDiff, Nat.reduceAdd, Nat.reduceSub, Nat.reduceLeDiff, Nat.reduceLT, Int.reduceEq, Int.reduceLT, Int.reduceLE, Int.reduceNeg, Int.reduceAdd, Int.reduceSub, Int.reduceMul, Int.reduceToNat, Int.cast_ofNat_Int, Int.natCast_zero, Nat.le_refl, Nat.zero_le, if_true, if_false, ite_true, ite_false, and_self, and_false, false_and, or_true, true_or, or_false, false_or, not_true_eq_false, Classical.not_not, not_or, Int.not_lt, Int.not_le, a_clr, Option.toList_some, Option.toList_none, List.cons_append, List.nil_append, a_cw, List.map_cons, List.map_nil, List.sum_cons, List.sum_nil, Value.category, nar_b0, nar_b1, sh_sa, sh_sf, sh_sl, sh_sfl, a_sh_iall, a_fv_iall, fv_sa, fv_sl, fv_sf_eq, fv_sf_ne, fv_sfl_eq, fv_sfl_ne, ga_sf, ga_sl, ga_sfl, ga_sa_ne, ga_sa, ga_iall_ne, gf_sa, gf_iall, gf_sl, gf_sfl, gf_sf_ne, gf_sf_eq, gl_sa, gl_iall, gl_sf, gl_sl_ne, gl_sl, gfl_sa, gfl_iall, gfl_sl, gfl_sf, gfl_sfl_ne, gfl_sfl_eq, ld_a, ld_0, ld_1, ld_2, st_a, st_0, st_f, ld_l, st_l, st_fl, sa_sa, sf_sf, sfl_sfl, k_max, k_far, k_no, zadd, zsub, zmul, zneg, zmax, zmin, zabs, zltI, zleI, zeqI, zlt0I, zle0I, z0ltI, z0leI, zeq0I, ti_ga, ti_gf, ti_bz, ztoInt, zinT, zix, bz_eq0, bz_eq1, bz_e0, bz_e1, bz_eqb, bz_or1, bz_True, bz_False, zor_i, zand_i, zxor_i, zandn_i, zandn_i2, zbit_i, ib_i, nB0, nB1, nBz, fk_T, fk_F, fk_pos, fk_neg, fk_same, fk_not, fk_and, fk_andn, fk_nand, fk_or, fkP10, fkP01, fkP0z, fkPz0, fkP1z, fkPz1]
  exact c_rd_all hC hO hd 12 0 0 0 W0 h' (by omega) (by omega) q (by omega) (by omega) hW ⟨fun j j0 j1 => by omega, rfl⟩ kF kS
end READ4
