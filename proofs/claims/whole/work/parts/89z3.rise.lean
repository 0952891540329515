/-! SET along one axis in the object: which POINTS rise together -/
def ex (u : Int → Int) (i : Int) : Int := if i = 6 then 0 else u i
theorem ex6 {u : Int → Int} : ex u 6 = 0 := if_pos rfl
theorem exP {u : Int → Int} {p : Int} (hp : in6 p) : ex u p = u p := if_neg (by unfold in6 at hp; omega)
theorem in67 {p : Int} (hp : in6 p) : in7 p := by unfold in6 at hp; unfold in7; omega
theorem in76 {p : Int} (hp : in7 p) (h6 : ¬ p = 6) : in6 p := by unfold in7 at hp; unfold in6; omega
/-- gaps that tell just what settings there are -/
def GfA (D : Int → Int → Int) (A : (Int → Int) → Prop) (S : Int) : Prop := Cl D ∧ ∀ u, obey D (ex u) ↔ fea A S u
def drg (D : Int → Int → Int) (u : Int → Int) (p j : Int) : Prop := j = p ∨ u p + D p j = u j
noncomputable def drS (D : Int → Int → Int) (u : Int → Int) (X : Int) : Int := bset (fun j => ∃ i, in6 i ∧ ib X i ∧ drg D u i j) 7
section RIP
variable {D : Int → Int → Int} {A : (Int → Int) → Prop} {S : Int} {v st : Int → Int} {X Y : Int}
theorem ex_shf (hX : 0 ≤ X ∧ X < 64) {i : Int} (hi : in7 i) : ex (shf v X) i = ex v i + bz (ib X i) := by
  by_cases c : i = 6
  · subst c
    rw [ex6, ex6, bz_F (fun z => by have := of64 hX.1 hX.2 z; omega)]; rfl
  · rw [exP (in76 hi c), exP (in76 hi c)]; rfl
theorem drS_iff (G : GfA D A S) (hv : fea A S v) (hX : 0 ≤ X ∧ X < 64) : drS D (ex v) X = X ↔ fea A S (shf v X) := by
  have ob := (G.2 v).mpr hv
  rw [← G.2 (shf v X)]
  constructor
  · intro e i j hi hj
    have b := ob i j hi hj
    have b1 := bz_01 (ib X j)
    rw [ex_shf hX hi, ex_shf hX hj]
    by_cases ci : ib X i
    · by_cases cj : ib X j
      · rw [bz_T ci, bz_T cj]; omega
      · rw [bz_T ci, bz_F cj]
        have : ¬ ex v i + D i j = ex v j := fun z => cj (by
          rw [← e]
          exact (ib_bset hj.1).mpr ⟨hj.2, i, ⟨hi.1, of64 hX.1 hX.2 ci⟩, ci, Or.inr z⟩)
        omega
    · rw [bz_F ci]; omega
  · intro o
    refine ib_ext (bset_0 7) hX.1 (fun j hj => ?_)
    unfold drS
    rw [ib_bset hj]
    constructor
    · rintro ⟨h1, i, hi, ci, c | c⟩
      · subst c; exact ci
      · have hj7 : in7 j := ⟨hj, h1⟩
        have b := o i j (in67 hi) hj7
        rw [ex_shf hX (in67 hi), ex_shf hX hj7, bz_T ci] at b
        refine Classical.byContradiction (fun z => ?_)
        rw [bz_F z] at b
        omega
    · intro z
      have := of64 hX.1 hX.2 z
      exact ⟨by omega, j, ⟨hj, this⟩, z, Or.inl rfl⟩
theorem drS_or {u : Int → Int} : drS D u (zor X Y) = zor (drS D u X) (drS D u Y) := by
  refine (bset_eq zor_0 (fun j hj => ?_)).symm
  unfold drS
  rw [ib_zor, ib_bset hj, ib_bset hj]
  constructor
  · rintro (⟨h1, i, h2, h3, h4⟩ | ⟨h1, i, h2, h3, h4⟩)
    · exact ⟨h1, i, h2, by rw [ib_zor]; exact Or.inl h3, h4⟩
    · exact ⟨h1, i, h2, by rw [ib_zor]; exact Or.inr h3, h4⟩
  · rintro ⟨h1, i, h2, h3, h4⟩
    rw [ib_zor] at h3
    rcases h3 with h3 | h3
    · exact Or.inl ⟨h1, i, h2, h3, h4⟩
    · exact Or.inr ⟨h1, i, h2, h3, h4⟩
theorem drS_bit {u : Int → Int} {p : Int} (hp : in6 p) : drS D u (zbit p) = bset (drg D u p) 7 := by
  refine bset_congr (fun j h0 h1 => ?_)
  constructor
  · rintro ⟨i, h2, h3, h4⟩
    rw [ib_zbit hp.1 h2.1] at h3
    subst h3; exact h4
  · exact fun z => ⟨p, hp, by rw [ib_zbit hp.1 hp.1], z⟩
theorem drS_r {u : Int → Int} : 0 ≤ drS D u X ∧ drS D u X < 128 := ⟨bset_0 7, bset_lt⟩
theorem cst_bit {p : Int} (hp : in6 p) : cst v st (zbit p) = if v p < st p then -1 else 1 := by
  have h : ∀ q, in6 q → ctm v st (zbit p) q = if q = p then (if v p < st p then -1 else 1) else 0 := fun q hq => by
    unfold ctm
    rw [ib_zbit hp.1 hq.1]
    by_cases c : q = p
    · rw [cif_pos c, if_pos c, c]
    · rw [cif_neg c, if_neg c]
  unfold cst sum6
  rw [h 0 (by unfold in6; omega), h 1 (by unfold in6; omega), h 2 (by unfold in6; omega), h 3 (by unfold in6; omega), h 4 (by unfold in6; omega), h 5 (by unfold in6; omega)]
  unfold in6 at hp
  rcases (by omega : p = 0 ∨ p = 1 ∨ p = 2 ∨ p = 3 ∨ p = 4 ∨ p = 5) with rfl | rfl | rfl | rfl | rfl | rfl <;> simp
theorem cst_add (h : zand X Y = 0) : cst v st (zor X Y) = cst v st X + cst v st Y := by
  have := cst_mod (v := v) (st := st) (X := X) (Y := Y)
  rw [h, cst_0] at this
  omega
/-- the lowest of a set, and the rest -/
theorem low64 : ∀ n : Nat, n < 64 → 0 < n → ∃ k, k < 6 ∧ I (n : Int) &&& -(I (n : Int)) = I ((2 ^ k : Nat) : Int) ∧ I (n : Int) ^^^ I ((2 ^ k : Nat) : Int) = I ((n - 2 ^ k : Nat) : Int) ∧ (n - 2 ^ k) ||| 2 ^ k = n ∧ (n - 2 ^ k) &&& 2 ^ k = 0 ∧ 2 ^ k ≤ n := by decide +kernel
theorem low64z {n : Nat} (h1 : n < 64) (h0 : 0 < n) : ∃ k, in6 k ∧ I (n : Int) &&& I (-(n : Int)) = I (zbit k) ∧ I (n : Int) ^^^ I (zbit k) = I ((n : Int) - zbit k) ∧ zor ((n : Int) - zbit k) (zbit k) = n ∧ zand ((n : Int) - zbit k) (zbit k) = 0 ∧ zbit k ≤ n ∧ 0 < zbit k := by
  obtain ⟨k, a, b, c, e, f, g⟩ := low64 n h1 h0
  have hk : zbit (k : Int) = ((2 ^ k : Nat) : Int) := rfl
  have p : 0 < 2 ^ k := Nat.pow_pos (by decide)
  have e2 : (n : Int) - ((2 ^ k : Nat) : Int) = ((n - 2 ^ k : Nat) : Int) := by omega
  refine ⟨k, ⟨by omega, by omega⟩, ?_, ?_, ?_, ?_, ?_, ?_⟩
  · rw [hk, ← zneg]; exact b
  · rw [hk, e2]; exact c
  · rw [hk, e2]
    show (((n - 2 ^ k) ||| 2 ^ k : Nat) : Int) = _
    rw [e]
  · rw [hk, e2]
    show (((n - 2 ^ k) &&& 2 ^ k : Nat) : Int) = _
    rw [f]; rfl
  · rw [hk]; omega
  · rw [hk]; omega
theorem zbit_inj {i j : Int} (hi : 0 ≤ i) (hj : 0 ≤ j) (e : zbit i = zbit j) : i = j := by
  have : ib (zbit j) i := by rw [← e, ib_zbit hi hi]
  rw [ib_zbit hj hi] at this
  exact this
/-- the best of the sets ahead of n -/
def rIn (A : (Int → Int) → Prop) (S : Int) (st v : Int → Int) (n le be : Int) : Prop := (be = 0 ∧ le = 0 ∧ ∀ Y, 0 < Y → Y < n → fea A S (shf v Y) → 0 ≤ cst v st Y) ∨ ((0 < be ∧ be < n) ∧ fea A S (shf v be) ∧ le = cst v st be ∧ cst v st be < 0 ∧ ∀ Y, 0 < Y → Y < n → fea A S (shf v Y) → cst v st be ≤ cst v st Y ∧ (cst v st be = cst v st Y → be ≤ Y))
theorem rIn_keep {n le be : Int} (q : rIn A S st v n le be) (hn : 0 < n) (h : fea A S (shf v n) → le ≤ cst v st n) : rIn A S st v (n + 1) le be := by
  rcases q with ⟨a, b, c⟩ | ⟨a, b, c, e, f⟩
  · refine Or.inl ⟨a, b, fun Y y0 y1 y2 => ?_⟩
    by_cases z : Y = n
    · subst z; have := h y2; omega
    · exact c Y y0 (by omega) y2
  · refine Or.inr ⟨by omega, b, c, e, fun Y y0 y1 y2 => ?_⟩
    by_cases z : Y = n
    · subst z; have := h y2; exact ⟨by omega, fun _ => by omega⟩
    · exact f Y y0 (by omega) y2
theorem rIn_less {n le be : Int} (q : rIn A S st v n le be) (hn : 0 < n) (hf : fea A S (shf v n)) (hl : cst v st n < le) : rIn A S st v (n + 1) (cst v st n) n := by
  refine Or.inr ⟨by omega, hf, rfl, ?_, fun Y y0 y1 y2 => ?_⟩
  · rcases q with ⟨a, b, c⟩ | ⟨a, b, c, e, f⟩ <;> omega
  · by_cases z : Y = n
    · subst z; exact ⟨Int.le_refl _, fun _ => Int.le_refl _⟩
    · rcases q with ⟨a, b, c⟩ | ⟨a, b, c, e, f⟩
      · have := c Y y0 (by omega) y2; exact ⟨by omega, fun e => by omega⟩
      · have := (f Y y0 (by omega) y2).1; exact ⟨by omega, fun e => by omega⟩
theorem rIn_end (hA : lat A) {le be : Int} (q : rIn A S st v 64 le be) : (be = 0 ∧ stl A S st v) ∨ bst A S st v be := by
  rcases q with ⟨a, b, c⟩ | ⟨a, b, c, e, f⟩
  · exact Or.inl ⟨a, fun Y y0 y1 y2 => c Y y0 y1 y2⟩
  · exact Or.inr (bst_num hA a b e f)
end RIP
/-! .. in the object -/
noncomputable def dgN (p : Int) (Q : Int → Prop) : Nat → Int
  | 0 => zbit p
  | n + 1 => cif (Q n) (zor (dgN p Q n) (zbit n)) (dgN p Q n)
theorem dgN_0 {p : Int} {Q : Int → Prop} : ∀ n, 0 ≤ dgN p Q n := by
  intro n
  induction n with
  | zero => exact zbit_0
  | succ n ih =>
    simp only [dgN]
    by_cases c : Q n
    · rw [cif_pos c]; exact zor_0
    · rw [cif_neg c]; exact ih
theorem ib_dgN {p : Int} {Q : Int → Prop} (hp : 0 ≤ p) {j : Int} (hj : 0 ≤ j) : ∀ n : Nat, ib (dgN p Q n) j ↔ j = p ∨ (j < n ∧ Q j) := by
  intro n
  induction n with
  | zero => rw [dgN, ib_zbit hp hj]; exact ⟨Or.inl, fun z => z.elim id (fun z => by omega)⟩
  | succ n ih =>
    simp only [dgN]
    by_cases c : Q n
    · rw [cif_pos c, ib_zor, ih, ib_zbit (by omega) hj]
      constructor
      · rintro ((z | z) | z)
        · exact Or.inl z
        · exact Or.inr ⟨by omega, z.2⟩
        · subst z; exact Or.inr ⟨by omega, c⟩
      · rintro (z | z)
        · exact Or.inl (Or.inl z)
        · by_cases e : j = n
          · exact Or.inr e
          · exact Or.inl (Or.inr ⟨by omega, z.2⟩)
    · rw [cif_neg c, ih]
      constructor
      · rintro (z | z)
        · exact Or.inl z
        · exact Or.inr ⟨by omega, z.2⟩
      · rintro (z | z)
        · exact Or.inl z
        · by_cases e : j = n
          · subst e; exact absurd z.2 c
          · exact Or.inr ⟨by omega, z.2⟩
theorem dgN_7 {p : Int} {Q : Int → Prop} (hp : in6 p) : dgN p Q 7 = bset (fun j => j = p ∨ Q j) 7 := bset_eq (dgN_0 7) (fun j hj => by
  rw [ib_dgN hp.1 hj]
  unfold in6 at hp
  constructor
  · rintro (z | z)
    · exact ⟨by omega, Or.inl z⟩
    · exact ⟨z.1, Or.inr z.2⟩
  · rintro ⟨a, z | z⟩
    · exact Or.inl z
    · exact Or.inr ⟨a, z⟩)
def isX (b : Nat) : Prop := b = 25 ∨ b = 35
theorem isX3 {b : Nat} (hb : isX b) : ¬ b = 1003 ∧ ¬ b + 1 = 1003 ∧ ¬ b + 2 = 1003 ∧ ¬ b + 3 = 1003 ∧ ¬ b + 4 = 1003 ∧ ¬ b + 5 = 1003 ∧ ¬ b + 6 = 1003 ∧ ¬ b + 7 = 1003 ∧ ¬ b + 8 = 1003 ∧ ¬ b + 9 = 1003 := by unfold isX at hb; omega
theorem isXG {b : Nat} (hb : isX b) : isG (b + 1) ∧ isG (b + 3) := by unfold isX at hb; unfold isG; omega
/-- six numbers of a row -/
def SA (h : aH) (a : Nat) (v : Int → Int) : Prop := ∀ p, in6 p → ga h a p = v p
theorem SA.fr {lo hi : Nat} {h h' : aH} {a : Nat} {v : Int → Int} (q : SA h a v) (f : Fr lo hi h h') (hc : a < lo ∨ hi ≤ a) : SA h' a v := fun p hp => (f.ag hc).trans (q p hp)
section RIC
variable {d : Nat} {h : aH} {post : Option Value → aH → Prop} {b : Nat} {D : Int → Int → Int} {A : (Int → Int) → Prop} {S : Int} {v st : Int → Int}
theorem q_Gaps_drags {g a : Nat} (hL : Lay h) (hg : isG g) (q : Cl D) (G : GapC h g D) (ha : a_sh h a = (2, 0, 6)) (ha2 : a < 100) (hv : SA h a v) (hr : ∀ p, in6 p → 0 ≤ v p ∧ v p ≤ 100) {p : Int} (hp : in6 p) : R d 0 0 22 0 [.ref g, .int (I p), .ref a, .null, .null] [] h post = post (some (.int (I (bset (drg D (ex v) p) 7)))) h := by
  have b3 := isG3 hg
  have a3 : ¬ a = 1003 := by omega
  have e0 := hv p hp
  have r0 := hr p hp
  have hp2 := hp
  unfold in6 at hp2
  simp (disch := (first | assumption | omega | exact zor_0 | exact zand_0 | exact zandn_0 | exact zbit_0 | exact zxor_0 | exact (bz_01 _).1 | (repeat (first | assumption | refine Lay.sF ?_ rfl | refine Lay.sA ?_ (by decide) | refine Lay.iall ?_ (by decide) | refine Lay.sL ?_ | refine Lay.sFL ?_ (by decide))))) only [e22_0, e22_1, e22_2, e22_3, e22_4, e22_5, e22_9, e22_11, e22_14, e22_15, e22_16, e22_17, e22_18, e22_21, e22_22, e22_24, e22_25, e22_27, e22_28, e22_29, e22_30, e22_31, e22_33, e22_34, e22_37, e22_38, e22_39, e22_41, e22_42, e22_43, e22_44, e22_47, e22_50, e22_51, e22_52, e22_53, e22_54, e22_57, e22_58, e22_60, e22_61, e22_63, e22_64, e22_65, e22_66, e22_69, e22_70, e22_72, e22_73, e22_74, e22_75, ne_eq, not_false_eq_true, true_and, and_true, reduceCtorEq, Nat.reduceEqDiff, Nat.reduceAdd, Nat.reduceSub, Nat.reduceLeDiff, Nat.reduceLT, Int.reduceEq, Int.reduceLT, Int.reduceLE, Int.reduceNeg, Int.reduceAdd, Int.reduceSub, Int.reduceMul, Int.reduceToNat, Int.cast_ofNat_Int, Int.natCast_zero, Nat.le_refl, Nat.zero_le, if_true, if_false, ite_true, ite_false, and_self, and_false, false_and, or_true, true_or, or_false, false_or, not_true_eq_false, Classical.not_not, not_or, Int.not_lt, Int.not_le, a_clr, Option.toList_some, Option.toList_none, List.cons_append, List.nil_append, a_cw, List.map_cons, List.map_nil, List.sum_cons, List.sum_nil, Value.category, nar_b0, nar_b1, sh_sa, sh_sf, sh_sl, sh_sfl, a_sh_iall, a_fv_iall, fv_sa, fv_sl, fv_sf_eq, fv_sf_ne, fv_sfl_eq, fv_sfl_ne, ga_sf, ga_sl, ga_sfl, ga_sa_ne, ga_sa, ga_iall_ne, gf_sa, gf_iall, gf_sl, gf_sfl, gf_sf_ne, gf_sf_eq, gl_sa, gl_iall, gl_sf, gl_sl_ne, gl_sl, gfl_sa, gfl_iall, gfl_sl, gfl_sf, gfl_sfl_ne, gfl_sfl_eq, ld_a, ld_0, ld_1, ld_2, st_a, st_0, st_f, ld_l, st_l, st_fl, sa_sa, sf_sf, sfl_sfl, k_max, k_far, k_no, zadd, zsub, zmul, zneg, zmax, zmin, zabs, zltI, zleI, zeqI, zlt0I, zle0I, z0ltI, z0leI, zeq0I, ti_ga, ti_gf, ti_bz, ztoInt, zinT, zix, bz_eq0, bz_eq1, bz_e0, bz_e1, bz_eqb, bz_or1, bz_True, bz_False, zor_i, zand_i, zxor_i, zandn_i, zandn_i2, zbit_i, ib_i, nB0, nB1, nBz, fk_T, fk_F, fk_pos, fk_neg, fk_same, fk_not, fk_and, fk_andn, fk_nand, fk_or, fkP10, fkP01, fkP0z, fkPz0, fkP1z, fkPz1]
  refine R_cnt (J := Unit) (fun n _ => [.ref g, .int (I p), .ref a, .int (I (dgN p (fun j => ex v p + D p j = ex v j) n.toNat)), .int (I n)]) 6 (fun n _ B hn ih => ?_) (fun _ => ?_) ()
  · have hn6 : in6 (n : Int) := by unfold in6; omega
    have e1 : ga h (g + 1) (p * 7 + n) = D p n := G p n (in67 hp) (in67 hn6)
    have u := q.up (in67 hp) (in67 hn6)
    have e2 := hv n hn6
    have r2 := hr n hn6
    have d0 := dgN_0 (p := p) (Q := fun j => ex v p + D p j = ex v j) n
    simp only [tn1, Int.toNat_natCast, dgN] at ih ⊢
    rw [← ih (), e22_7]
    by_cases c : v p + D p n = v n
    · rw [cif_pos (by rw [exP hp, exP hn6]; exact c)]
      simp (disch := (first | assumption | omega | exact zor_0 | exact zand_0 | exact zandn_0 | exact zbit_0 | exact zxor_0 | exact (bz_01 _).1 | (repeat (first | assumption | refine Lay.sF ?_ rfl | refine Lay.sA ?_ (by decide) | refine Lay.iall ?_ (by decide) | refine Lay.sL ?_ | refine Lay.sFL ?_ (by decide))))) only [e22_0, e22_1, e22_2, e22_3, e22_4, e22_5, e22_9, e22_11, e22_14, e22_15, e22_16, e22_17, e22_18, e22_21, e22_22, e22_24, e22_25, e22_27, e22_28, e22_29, e22_30, e22_31, e22_33, e22_34, e22_37, e22_38, e22_39, e22_41, e22_42, e22_43, e22_44, e22_47, e22_50, e22_51, e22_52, e22_53, e22_54, e22_57, e22_58, e22_60, e22_61, e22_63, e22_64, e22_65, e22_66, e22_69, e22_70, e22_72, e22_73, e22_74, e22_75, ne_eq, not_false_eq_true, true_and, and_true, reduceCtorEq, Nat.reduceEqDiff, Nat.reduceAdd, Nat.reduceSub, Nat.reduceLeDiff, Nat.reduceLT, Int.reduceEq, Int.reduceLT, Int.reduceLE, Int.reduceNeg, Int.reduceAdd, Int.reduceSub, Int.reduceMul, Int.reduceToNat, Int.cast_ofNat_Int, Int.natCast_zero, Nat.le_refl, Nat.zero_le, if_true, if_false, ite_true, ite_false, and_self, and_false, false_and, or_true, true_or, or_false, false_or, not_true_eq_false, Classical.not_not, not_or, Int.not_lt, Int.not_le, a_clr, Option.toList_some, Option.toList_none, List.cons_append, List.nil_append, a_cw, List.map_cons, List.map_nil, List.sum_cons, List.sum_nil, Value.category, nar_b0, nar_b1, sh_sa, sh_sf, sh_sl, sh_sfl, a_sh_iall, a_fv_iall, fv_sa, fv_sl, fv_sf_eq, fv_sf_ne, fv_sfl_eq, fv_sfl_ne, ga_sf, ga_sl, ga_sfl, ga_sa_ne, ga_sa, ga_iall_ne, gf_sa, gf_iall, gf_sl, gf_sfl, gf_sf_ne, gf_sf_eq, gl_sa, gl_iall, gl_sf, gl_sl_ne, gl_sl, gfl_sa, gfl_iall, gfl_sl, gfl_sf, gfl_sfl_ne, gfl_sfl_eq, ld_a, ld_0, ld_1, ld_2, st_a, st_0, st_f, ld_l, st_l, st_fl, sa_sa, sf_sf, sfl_sfl, k_max, k_far, k_no, zadd, zsub, zmul, zneg, zmax, zmin, zabs, zltI, zleI, zeqI, zlt0I, zle0I, z0ltI, z0leI, zeq0I, ti_ga, ti_gf, ti_bz, ztoInt, zinT, zix, bz_eq0, bz_eq1, bz_e0, bz_e1, bz_eqb, bz_or1, bz_True, bz_False, zor_i, zand_i, zxor_i, zandn_i, zandn_i2, zbit_i, ib_i, nB0, nB1, nBz, fk_T, fk_F, fk_pos, fk_neg, fk_same, fk_not, fk_and, fk_andn, fk_nand, fk_or, fkP10, fkP01, fkP0z, fkPz0, fkP1z, fkPz1, layGaps hL hg, b3, ha, a3, e0, e1, e2, c]
    · rw [cif_neg (by rw [exP hp, exP hn6]; exact c)]
      simp (disch := (first | assumption | omega | exact zor_0 | exact zand_0 | exact zandn_0 | exact zbit_0 | exact zxor_0 | exact (bz_01 _).1 | (repeat (first | assumption | refine Lay.sF ?_ rfl | refine Lay.sA ?_ (by decide) | refine Lay.iall ?_ (by decide) | refine Lay.sL ?_ | refine Lay.sFL ?_ (by decide))))) only [e22_0, e22_1, e22_2, e22_3, e22_4, e22_5, e22_9, e22_11, e22_14, e22_15, e22_16, e22_17, e22_18, e22_21, e22_22, e22_24, e22_25, e22_27, e22_28, e22_29, e22_30, e22_31, e22_33, e22_34, e22_37, e22_38, e22_39, e22_41, e22_42, e22_43, e22_44, e22_47, e22_50, e22_51, e22_52, e22_53, e22_54, e22_57, e22_58, e22_60, e22_61, e22_63, e22_64, e22_65, e22_66, e22_69, e22_70, e22_72, e22_73, e22_74, e22_75, ne_eq, not_false_eq_true, true_and, and_true, reduceCtorEq, Nat.reduceEqDiff, Nat.reduceAdd, Nat.reduceSub, Nat.reduceLeDiff, Nat.reduceLT, Int.reduceEq, Int.reduceLT, Int.reduceLE, Int.reduceNeg, Int.reduceAdd, Int.reduceSub, Int.reduceMul, Int.reduceToNat, Int.cast_ofNat_Int, Int.natCast_zero, Nat.le_refl, Nat.zero_le, if_true, if_false, ite_true, ite_false, and_self, and_false, false_and, or_true, true_or, or_false, false_or, not_true_eq_false, Classical.not_not, not_or, Int.not_lt, Int.not_le, a_clr, Option.toList_some, Option.toList_none, List.cons_append, List.nil_append, a_cw, List.map_cons, List.map_nil, List.sum_cons, List.sum_nil, Value.category, nar_b0, nar_b1, sh_sa, sh_sf, sh_sl, sh_sfl, a_sh_iall, a_fv_iall, fv_sa, fv_sl, fv_sf_eq, fv_sf_ne, fv_sfl_eq, fv_sfl_ne, ga_sf, ga_sl, ga_sfl, ga_sa_ne, ga_sa, ga_iall_ne, gf_sa, gf_iall, gf_sl, gf_sfl, gf_sf_ne, gf_sf_eq, gl_sa, gl_iall, gl_sf, gl_sl_ne, gl_sl, gfl_sa, gfl_iall, gfl_sl, gfl_sf, gfl_sfl_ne, gfl_sfl_eq, ld_a, ld_0, ld_1, ld_2, st_a, st_0, st_f, ld_l, st_l, st_fl, sa_sa, sf_sf, sfl_sfl, k_max, k_far, k_no, zadd, zsub, zmul, zneg, zmax, zmin, zabs, zltI, zleI, zeqI, zlt0I, zle0I, z0ltI, z0leI, zeq0I, ti_ga, ti_gf, ti_bz, ztoInt, zinT, zix, bz_eq0, bz_eq1, bz_e0, bz_e1, bz_eqb, bz_or1, bz_True, bz_False, zor_i, zand_i, zxor_i, zandn_i, zandn_i2, zbit_i, ib_i, nB0, nB1, nBz, fk_T, fk_F, fk_pos, fk_neg, fk_same, fk_not, fk_and, fk_andn, fk_nand, fk_or, fkP10, fkP01, fkP0z, fkPz0, fkP1z, fkPz1, layGaps hL hg, b3, ha, a3, e0, e1, e2, c]
  · have e1 : ga h (g + 1) (p * 7 + 6) = D p 6 := G p 6 (in67 hp) (by unfold in7; omega)
    have u := q.up (in67 hp) (show in7 6 by unfold in7; omega)
    have d0 := dgN_0 (p := p) (Q := fun j => ex v p + D p j = ex v j) 6
    have d7 := dgN_7 (p := p) (Q := fun j => ex v p + D p j = ex v j) hp
    have e7 : dgN p (fun j => ex v p + D p j = ex v j) 7 = cif (ex v p + D p 6 = ex v 6) (zor (dgN p (fun j => ex v p + D p j = ex v j) 6) 64) (dgN p (fun j => ex v p + D p j = ex v j) 6) := rfl
    have e8 : bset (drg D (ex v) p) 7 = bset (fun j => j = p ∨ ex v p + D p j = ex v j) 7 := rfl
    rw [e8, ← d7, e7, e22_7]
    simp only [show (((6 : Nat) : Int)).toNat = 6 from rfl]
    by_cases c : v p + D p 6 = 0
    · rw [cif_pos (by rw [exP hp, ex6]; exact c)]
      simp (disch := (first | assumption | omega | exact zor_0 | exact zand_0 | exact zandn_0 | exact zbit_0 | exact zxor_0 | exact (bz_01 _).1 | (repeat (first | assumption | refine Lay.sF ?_ rfl | refine Lay.sA ?_ (by decide) | refine Lay.iall ?_ (by decide) | refine Lay.sL ?_ | refine Lay.sFL ?_ (by decide))))) only [e22_0, e22_1, e22_2, e22_3, e22_4, e22_5, e22_9, e22_11, e22_14, e22_15, e22_16, e22_17, e22_18, e22_21, e22_22, e22_24, e22_25, e22_27, e22_28, e22_29, e22_30, e22_31, e22_33, e22_34, e22_37, e22_38, e22_39, e22_41, e22_42, e22_43, e22_44, e22_47, e22_50, e22_51, e22_52, e22_53, e22_54, e22_57, e22_58, e22_60, e22_61, e22_63, e22_64, e22_65, e22_66, e22_69, e22_70, e22_72, e22_73, e22_74, e22_75, ne_eq, not_false_eq_true, true_and, and_true, reduceCtorEq, Nat.reduceEqDiff, Nat.reduceAdd, Nat.reduceSub, Nat.reduceLeDiff, Nat.reduceLT, Int.reduceEq, Int.reduceLT, Int.reduceLE, Int.reduceNeg, Int.reduceAdd, Int.reduceSub, Int.reduceMul, Int.reduceToNat, Int.cast_ofNat_Int, Int.natCast_zero, Nat.le_refl, Nat.zero_le, if_true, if_false, ite_true, ite_false, and_self, and_false, false_and, or_true, true_or, or_false, false_or, not_true_eq_false, Classical.not_not, not_or, Int.not_lt, Int.not_le, a_clr, Option.toList_some, Option.toList_none, List.cons_append, List.nil_append, a_cw, List.map_cons, List.map_nil, List.sum_cons, List.sum_nil, Value.category, nar_b0, nar_b1, sh_sa, sh_sf, sh_sl, sh_sfl, a_sh_iall, a_fv_iall, fv_sa, fv_sl, fv_sf_eq, fv_sf_ne, fv_sfl_eq, fv_sfl_ne, ga_sf, ga_sl, ga_sfl, ga_sa_ne, ga_sa, ga_iall_ne, gf_sa, gf_iall, gf_sl, gf_sfl, gf_sf_ne, gf_sf_eq, gl_sa, gl_iall, gl_sf, gl_sl_ne, gl_sl, gfl_sa, gfl_iall, gfl_sl, gfl_sf, gfl_sfl_ne, gfl_sfl_eq, ld_a, ld_0, ld_1, ld_2, st_a, st_0, st_f, ld_l, st_l, st_fl, sa_sa, sf_sf, sfl_sfl, k_max, k_far, k_no, zadd, zsub, zmul, zneg, zmax, zmin, zabs, zltI, zleI, zeqI, zlt0I, zle0I, z0ltI, z0leI, zeq0I, ti_ga, ti_gf, ti_bz, ztoInt, zinT, zix, bz_eq0, bz_eq1, bz_e0, bz_e1, bz_eqb, bz_or1, bz_True, bz_False, zor_i, zand_i, zxor_i, zandn_i, zandn_i2, zbit_i, ib_i, nB0, nB1, nBz, fk_T, fk_F, fk_pos, fk_neg, fk_same, fk_not, fk_and, fk_andn, fk_nand, fk_or, fkP10, fkP01, fkP0z, fkPz0, fkP1z, fkPz1, layGaps hL hg, b3, ha, a3, e0, e1, c]
    · rw [cif_neg (by rw [exP hp, ex6]; exact c)]
      simp (disch := (first | assumption | omega | exact zor_0 | exact zand_0 | exact zandn_0 | exact zbit_0 | exact zxor_0 | exact (bz_01 _).1 | (repeat (first | assumption | refine Lay.sF ?_ rfl | refine Lay.sA ?_ (by decide) | refine Lay.iall ?_ (by decide) | refine Lay.sL ?_ | refine Lay.sFL ?_ (by decide))))) only [e22_0, e22_1, e22_2, e22_3, e22_4, e22_5, e22_9, e22_11, e22_14, e22_15, e22_16, e22_17, e22_18, e22_21, e22_22, e22_24, e22_25, e22_27, e22_28, e22_29, e22_30, e22_31, e22_33, e22_34, e22_37, e22_38, e22_39, e22_41, e22_42, e22_43, e22_44, e22_47, e22_50, e22_51, e22_52, e22_53, e22_54, e22_57, e22_58, e22_60, e22_61, e22_63, e22_64, e22_65, e22_66, e22_69, e22_70, e22_72, e22_73, e22_74, e22_75, ne_eq, not_false_eq_true, true_and, and_true, reduceCtorEq, Nat.reduceEqDiff, Nat.reduceAdd, Nat.reduceSub, Nat.reduceLeDiff, Nat.reduceLT, Int.reduceEq, Int.reduceLT, Int.reduceLE, Int.reduceNeg, Int.reduceAdd, Int.reduceSub, Int.reduceMul, Int.reduceToNat, Int.cast_ofNat_Int, Int.natCast_zero, Nat.le_refl, Nat.zero_le, if_true, if_false, ite_true, ite_false, and_self, and_false, false_and, or_true, true_or, or_false, false_or, not_true_eq_false, Classical.not_not, not_or, Int.not_lt, Int.not_le, a_clr, Option.toList_some, Option.toList_none, List.cons_append, List.nil_append, a_cw, List.map_cons, List.map_nil, List.sum_cons, List.sum_nil, Value.category, nar_b0, nar_b1, sh_sa, sh_sf, sh_sl, sh_sfl, a_sh_iall, a_fv_iall, fv_sa, fv_sl, fv_sf_eq, fv_sf_ne, fv_sfl_eq, fv_sfl_ne, ga_sf, ga_sl, ga_sfl, ga_sa_ne, ga_sa, ga_iall_ne, gf_sa, gf_iall, gf_sl, gf_sfl, gf_sf_ne, gf_sf_eq, gl_sa, gl_iall, gl_sf, gl_sl_ne, gl_sl, gfl_sa, gfl_iall, gfl_sl, gfl_sf, gfl_sfl_ne, gfl_sfl_eq, ld_a, ld_0, ld_1, ld_2, st_a, st_0, st_f, ld_l, st_l, st_fl, sa_sa, sf_sf, sfl_sfl, k_max, k_far, k_no, zadd, zsub, zmul, zneg, zmax, zmin, zabs, zltI, zleI, zeqI, zlt0I, zle0I, z0ltI, z0leI, zeq0I, ti_ga, ti_gf, ti_bz, ztoInt, zinT, zix, bz_eq0, bz_eq1, bz_e0, bz_e1, bz_eqb, bz_or1, bz_True, bz_False, zor_i, zand_i, zxor_i, zandn_i, zandn_i2, zbit_i, ib_i, nB0, nB1, nBz, fk_T, fk_F, fk_pos, fk_neg, fk_same, fk_not, fk_and, fk_andn, fk_nand, fk_or, fkP10, fkP01, fkP0z, fkPz0, fkP1z, fkPz1, layGaps hL hg, b3, ha, a3, e0, e1, c]
end RIC
