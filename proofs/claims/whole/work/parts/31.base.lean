/-! small rows: heap accessors, ints as I z, loops -/
section BASE
variable {h : aH} {a b k j : Nat} {v : Value} {f : Nat → Int32} {g : Nat → Int64} {i z w : Int} {u : Int64}
theorem a_sh_fset : a_sh (a_fset h a k v) = a_sh h := rfl
theorem a_sh_iall : a_sh (a_iall h a f) = a_sh h := rfl
theorem a_sh_lall : a_sh (a_lall h a g) = a_sh h := rfl
theorem a_fv_iall : a_fv (a_iall h a f) = a_fv h := rfl
theorem a_fv_lall : a_fv (a_lall h a g) = a_fv h := rfl
theorem a_ia_fset : a_ia (a_fset h a k v) = a_ia h := rfl
theorem a_ia_lall : a_ia (a_lall h a g) = a_ia h := rfl
theorem a_la_fset : a_la (a_fset h a k v) = a_la h := rfl
theorem a_la_iall : a_la (a_iall h a f) = a_la h := rfl
theorem a_fv_fset : a_fv (a_fset h a k v) b j = if b = a ∧ j = k then v else a_fv h b j := rfl
theorem a_ia_iall : a_ia (a_iall h a f) b = if b = a then f else a_ia h b := rfl
theorem a_la_lall : a_la (a_lall h a g) b = if b = a then g else a_la h b := rfl
theorem a_iall_self : a_iall h a (a_ia h a) = h := by
  obtain ⟨x, y, z, w⟩ := h
  simp only [a_iall, a_ia, Prod.mk.injEq, true_and, and_true]
  funext b
  split <;> simp_all
theorem a_iall_iall {f2 : Nat → Int32} : a_iall (a_iall h a f) a f2 = a_iall h a f2 := by
  obtain ⟨x, y, z, w⟩ := h
  simp only [a_iall, Prod.mk.injEq, true_and, and_true]
  funext b
  split <;> simp_all
theorem a_fset_fset {w : Value} : a_fset (a_fset h a k v) a k w = a_fset h a k w := by
  obtain ⟨x, y, z⟩ := h
  simp only [a_fset, Prod.mk.injEq, true_and, and_true]
  funext b j
  split <;> simp_all
theorem a_fset_self (e : a_fv h a k = v) : a_fset h a k v = h := by
  subst e
  obtain ⟨x, y, z⟩ := h
  simp only [a_fset, a_fv, Prod.mk.injEq, true_and, and_true]
  funext b j
  split <;> simp_all
theorem sh_sa : a_sh (sa h a i z) = a_sh h := rfl
theorem sh_sf : a_sh (sf h a k z) = a_sh h := rfl
theorem sh_sl : a_sh (sl_ h a i u) = a_sh h := rfl
theorem sh_sfl : a_sh (sfl h a k u) = a_sh h := rfl
theorem fv_sa : a_fv (sa h a i z) = a_fv h := rfl
theorem fv_sl : a_fv (sl_ h a i u) = a_fv h := rfl
theorem fv_sf_eq : a_fv (sf h a k z) a k = .int (I z) := by simp [sf, a_fv_fset]
theorem fv_sf_ne (hn : b ≠ a ∨ j ≠ k) : a_fv (sf h a k z) b j = a_fv h b j := by
  rw [sf, a_fv_fset, if_neg (by omega)]
theorem fv_sfl_eq : a_fv (sfl h a k u) a k = .long u := by simp [sfl, a_fv_fset]
theorem fv_sfl_ne (hn : b ≠ a ∨ j ≠ k) : a_fv (sfl h a k u) b j = a_fv h b j := by
  rw [sfl, a_fv_fset, if_neg (by omega)]
theorem ia_sf : a_ia (sf h a k z) = a_ia h := rfl
theorem ia_sl : a_ia (sl_ h a i u) = a_ia h := rfl
theorem ia_sfl : a_ia (sfl h a k u) = a_ia h := rfl
theorem ia_sa_ne (hn : b ≠ a) : a_ia (sa h a i z) b = a_ia h b := by rw [sa, a_ia_iall, if_neg hn]
theorem la_sf : a_la (sf h a k z) = a_la h := rfl
theorem la_sa : a_la (sa h a i z) = a_la h := rfl
theorem la_sfl : a_la (sfl h a k u) = a_la h := rfl
theorem ga_sf {c : Nat} : ga (sf h a k z) c i = ga h c i := rfl
theorem ga_sl {c : Nat} : ga (sl_ h a w u) c i = ga h c i := rfl
theorem ga_sfl {c : Nat} : ga (sfl h a k u) c i = ga h c i := rfl
theorem ga_sa_ne {c : Nat} (hn : c ≠ a) : ga (sa h a w z) c i = ga h c i := by
  simp only [ga, sa, a_ia_iall, if_neg hn]
theorem ga_sa {c : Int} (h1 : 0 ≤ w) (h2 : 0 ≤ c) (h3 : -2147483648 ≤ z) (h4 : z < 2147483648) : ga (sa h a w z) a c = if c = w then z else ga h a c := by
  simp only [ga, sa, a_ia_iall, if_true, upd]
  by_cases e : c = w
  · subst e
    rw [if_pos rfl, if_pos rfl]
    exact Int32.toInt_ofInt_of_le (by omega) (by omega)
  · rw [if_neg e, if_neg (by omega)]
theorem ga_iall_ne {c : Nat} (hn : c ≠ a) : ga (a_iall h a f) c i = ga h c i := by
  simp only [ga, a_ia_iall, if_neg hn]
theorem ga_iall : ga (a_iall h a f) a i = (f i.toNat).toInt := by
  simp only [ga, a_ia_iall, if_true]
theorem gf_sa {c : Nat} : gf (sa h a i z) c j = gf h c j := rfl
theorem gf_iall {c : Nat} : gf (a_iall h a f) c j = gf h c j := rfl
theorem gf_sl {c : Nat} : gf (sl_ h a i u) c j = gf h c j := rfl
theorem gf_sfl (hn : b ≠ a ∨ j ≠ k) : gf (sfl h a k u) b j = gf h b j := by rw [gf, fv_sfl_ne hn, gf]
theorem gf_sf_ne (hn : b ≠ a ∨ j ≠ k) : gf (sf h a k z) b j = gf h b j := by rw [gf, fv_sf_ne hn, gf]
theorem gf_sf_eq (h3 : -2147483648 ≤ z) (h4 : z < 2147483648) : gf (sf h a k z) a k = z := by
  rw [gf, fv_sf_eq]
  exact Int32.toInt_ofInt_of_le (by omega) (by omega)
theorem gl_sa {c : Nat} : gl (sa h a w z) c i = gl h c i := rfl
theorem gl_iall {c : Nat} : gl (a_iall h a f) c i = gl h c i := rfl
theorem gl_sf {c : Nat} : gl (sf h a k z) c i = gl h c i := rfl
theorem gl_sl_ne {c : Nat} (hn : c ≠ a) : gl (sl_ h a w u) c i = gl h c i := by
  simp only [gl, sl_, a_la_lall, if_neg hn]
theorem gl_sl {c : Int} (h1 : 0 ≤ w) (h2 : 0 ≤ c) : gl (sl_ h a w u) a c = if c = w then u else gl h a c := by
  simp only [gl, sl_, a_la_lall, if_true, vp_updL]
  by_cases e : c = w
  · subst e; rw [if_pos rfl, if_pos rfl]
  · rw [if_neg e, if_neg (by omega)]
theorem gfl_sa {c : Nat} : gfl (sa h a w z) c j = gfl h c j := rfl
theorem gfl_iall {c : Nat} : gfl (a_iall h a f) c j = gfl h c j := rfl
theorem gfl_sl {c : Nat} : gfl (sl_ h a w u) c j = gfl h c j := rfl
theorem gfl_sf (hn : b ≠ a ∨ j ≠ k) : gfl (sf h a k z) b j = gfl h b j := by rw [gfl, fv_sf_ne hn, gfl]
theorem gfl_sfl_ne (hn : b ≠ a ∨ j ≠ k) : gfl (sfl h a k u) b j = gfl h b j := by rw [gfl, fv_sfl_ne hn, gfl]
theorem gfl_sfl_eq : gfl (sfl h a k u) a k = u := by rw [gfl, fv_sfl_eq]
/-- folding of loads and stores -/
theorem ld_a : a_ia h a z.toNat = I (ga h a z) := (Int32.ofInt_toInt _).symm
theorem ld_0 : a_ia h a 0 = I (ga h a 0) := (Int32.ofInt_toInt _).symm
theorem ld_1 : a_ia h a 1 = I (ga h a 1) := (Int32.ofInt_toInt _).symm
theorem ld_2 : a_ia h a 2 = I (ga h a 2) := (Int32.ofInt_toInt _).symm
theorem st_0 : a_iall h a (upd (a_ia h a) 0 (I z)) = sa h a 0 z := rfl
theorem st_a : a_iall h a (upd (a_ia h a) w.toNat (I z)) = sa h a w z := rfl
theorem st_f : a_fset h a k (.int (I z)) = sf h a k z := rfl
theorem ld_l : a_la h a z.toNat = gl h a z := rfl
theorem st_l : a_lall h a (vp_updL (a_la h a) w.toNat u) = sl_ h a w u := rfl
theorem st_fl : a_fset h a k (.long u) = sfl h a k u := rfl
theorem ga_r (h : aH) (a : Nat) (i : Int) : -2147483648 ≤ ga h a i ∧ ga h a i < 2147483648 := ⟨Int32.le_toInt _, Int32.toInt_lt _⟩
theorem gf_r (h : aH) (a k : Nat) : -2147483648 ≤ gf h a k ∧ gf h a k < 2147483648 := by
  unfold gf
  split
  · exact ⟨Int32.le_toInt _, Int32.toInt_lt _⟩
  · omega
theorem sa_sa : sa (sa h a i z) a i w = sa h a i w := by
  simp only [sa, a_iall_iall, a_ia_iall, if_true]
  congr 1
  funext q
  simp only [upd]
  split <;> rfl
theorem sf_sf : sf (sf h a k z) a k w = sf h a k w := a_fset_fset
theorem sfl_sfl {w : Int64} : sfl (sfl h a k u) a k w = sfl h a k w := a_fset_fset
theorem Lay.iall (hL : Lay h) (ha : a < 1001) : Lay (a_iall h a f) := by
  refine ⟨hL.1, hL.2.1, hL.2.2.1, hL.2.2.2.1, hL.2.2.2.2.1, hL.2.2.2.2.2.1, hL.2.2.2.2.2.2.1, fun c hc => ⟨(hL.2.2.2.2.2.2.2 c hc).1, ?_⟩⟩
  rw [a_ia_iall, if_neg (by omega)]
  exact (hL.2.2.2.2.2.2.2 c hc).2
theorem Lay.sA (hL : Lay h) (ha : a < 1001) : Lay (sa h a i z) := hL.iall ha
theorem Lay.sL (hL : Lay h) : Lay (sl_ h a i u) := hL
theorem Lay.lall (hL : Lay h) : Lay (a_lall h a g) := hL
theorem a_isI_ptr : ∀ e ∈ a_intL, (a_ptr e.1 e.2 == 0) = true ∧ ¬ e = (54, 2) ∧ ¬ e = (73, 0) ∧ ¬ e = (0, 10) ∧ ¬ e = (0, 11) ∧ ¬ e = (47, 0) ∧ ¬ e = (47, 1) := by decide +kernel
theorem a_isI_mem {a k : Nat} (hi : a_isI a k = true) : (a, k) ∈ a_intL := by
  simp only [a_isI, List.any_eq_true, Bool.and_eq_true, beq_iff_eq] at hi
  obtain ⟨e, he, h1, h2⟩ := hi
  rw [← h1, ← h2]; exact he
theorem Lay.sF (hL : Lay h) (hi : a_isI a k = true) : Lay (sf h a k z) := by
  have hp := a_isI_ptr _ (a_isI_mem hi)
  simp only [Prod.mk.injEq] at hp
  obtain ⟨h0, h1, h2, h3, h4, h5, h6⟩ := hp
  refine ⟨hL.1, fun b j hb => ?_, fun b j hb => ?_, ?_, ?_, ?_, ?_, hL.2.2.2.2.2.2.2⟩
  · rw [fv_sf_ne]
    · exact hL.2.1 b j hb
    · by_cases e : b = a ∧ j = k
      · obtain ⟨rfl, rfl⟩ := e; rw [h0] at hb; cases hb
      · omega
  · by_cases e : b = a ∧ j = k
    · obtain ⟨rfl, rfl⟩ := e
      simp only [gf, fv_sf_eq, Int32.ofInt_toInt]
    · rw [gf_sf_ne (by omega), fv_sf_ne (by omega)]
      exact hL.2.2.1 b j hb
  · rw [gfl_sf (by omega), fv_sf_ne (by omega)]; exact hL.2.2.2.1
  · rw [gfl_sf (by omega), fv_sf_ne (by omega)]; exact hL.2.2.2.2.1
  · simp only [a_two]; rw [fv_sf_ne (by omega), fv_sf_ne (by omega)]; exact hL.2.2.2.2.2.1
  · simp only [a_two]; rw [fv_sf_ne (by omega), fv_sf_ne (by omega)]; exact hL.2.2.2.2.2.2.1
theorem Lay.sFL (hL : Lay h) (hi : (a = 54 ∧ k = 2) ∨ (a = 73 ∧ k = 0)) : Lay (sfl h a k u) := by
  have h0 : (a_ptr a k == 0) = true ∧ a_isI a k = false := by rcases hi with ⟨rfl, rfl⟩ | ⟨rfl, rfl⟩ <;> decide +kernel
  refine ⟨hL.1, fun b j hb => ?_, fun b j hb => ?_, ?_, ?_, ?_, ?_, hL.2.2.2.2.2.2.2⟩
  · rw [fv_sfl_ne]
    · exact hL.2.1 b j hb
    · by_cases e : b = a ∧ j = k
      · obtain ⟨rfl, rfl⟩ := e; rw [h0.1] at hb; cases hb
      · omega
  · have : b ≠ a ∨ j ≠ k := by
      by_cases e : b = a ∧ j = k
      · obtain ⟨rfl, rfl⟩ := e; rw [h0.2] at hb; cases hb
      · omega
    rw [gf_sfl this, fv_sfl_ne this]
    exact hL.2.2.1 b j hb
  · by_cases e : 54 = a ∧ 2 = k
    · obtain ⟨rfl, rfl⟩ := e; rw [gfl_sfl_eq, fv_sfl_eq]
    · rw [gfl_sfl_ne (by omega), fv_sfl_ne (by omega)]; exact hL.2.2.2.1
  · by_cases e : 73 = a ∧ 0 = k
    · obtain ⟨rfl, rfl⟩ := e; rw [gfl_sfl_eq, fv_sfl_eq]
    · rw [gfl_sfl_ne (by omega), fv_sfl_ne (by omega)]; exact hL.2.2.2.2.1
  · simp only [a_two]; rw [fv_sfl_ne (by omega), fv_sfl_ne (by omega)]; exact hL.2.2.2.2.2.1
  · simp only [a_two]; rw [fv_sfl_ne (by omega), fv_sfl_ne (by omega)]; exact hL.2.2.2.2.2.2.1
theorem upd_upd (f : Nat → Int32) (k : Nat) (x y : Int32) : upd (upd f k x) k y = upd f k y := by
  funext j
  simp only [upd]
  split <;> rfl
end BASE
theorem k_max : (2147483647 : Int32) = I 2147483647 := rfl
theorem k_far : (-1000000 : Int32) = I (-1000000) := rfl
theorem k_no : (-100000 : Int32) = I (-100000) := rfl
theorem zadd (x y : Int) : I x + I y = I (x + y) := (Int32.ofInt_add x y).symm
theorem zsub (x y : Int) : I x - I y = I (x - y) := (Int32.ofInt_sub x y).symm
theorem zmul (x y : Int) : I x * I y = I (x * y) := (Int32.ofInt_mul x y).symm
theorem zneg (x : Int) : - I x = I (-x) := (Int32.ofInt_neg x).symm
theorem ztoInt {x : Int} (h1 : -2147483648 ≤ x) (h2 : x < 2147483648) : (I x).toInt = x := Int32.toInt_ofInt_of_le (by omega) (by omega)
theorem ti_ga (h : aH) (a : Nat) (i : Int) : (I (ga h a i)).toInt = ga h a i := ztoInt (ga_r h a i).1 (ga_r h a i).2
theorem ti_gf (h : aH) (a k : Nat) : (I (gf h a k)).toInt = gf h a k := ztoInt (gf_r h a k).1 (gf_r h a k).2
theorem ti_bz (p : Prop) : (I (bz p)).toInt = bz p := ztoInt (by have := bz_01 p; omega) (by have := bz_01 p; omega)
theorem z0 : (0 : Int32) = I 0 := rfl
theorem zltI (x y : Int) : (I x < I y) = ((I x).toInt < (I y).toInt) := propext Int32.lt_iff_toInt_lt
theorem zleI (x y : Int) : (I x ≤ I y) = ((I x).toInt ≤ (I y).toInt) := propext Int32.le_iff_toInt_le
theorem zeqI (x y : Int) : (I x = I y) = ((I x).toInt = (I y).toInt) := propext Int32.toInt_inj.symm
theorem zlt0I (x : Int) : (I x < 0) = ((I x).toInt < 0) := propext Int32.lt_iff_toInt_lt
theorem zle0I (x : Int) : (I x ≤ 0) = ((I x).toInt ≤ 0) := propext Int32.le_iff_toInt_le
theorem z0ltI (x : Int) : (0 < I x) = (0 < (I x).toInt) := propext Int32.lt_iff_toInt_lt
theorem z0leI (x : Int) : (0 ≤ I x) = (0 ≤ (I x).toInt) := propext Int32.le_iff_toInt_le
theorem zeq0I (x : Int) : (I x = 0) = ((I x).toInt = 0) := propext Int32.toInt_inj.symm
theorem bz_eq0 (p : Prop) : (bz p = 0) = ¬ p := by by_cases hp : p <;> simp [bz, hp]
theorem bz_eq1 (p : Prop) : (bz p = 1) = p := by by_cases hp : p <;> simp [bz, hp]
theorem bz_e0 (p : Prop) : (0 = bz p) = ¬ p := by by_cases hp : p <;> simp [bz, hp]
theorem bz_e1 (p : Prop) : (1 = bz p) = p := by by_cases hp : p <;> simp [bz, hp]
theorem bz_eqb (p q : Prop) : (bz p = bz q) = (p ↔ q) := by by_cases hp : p <;> by_cases hq : q <;> simp [bz, hp, hq]
theorem bz_or1 (p : Prop) : (bz p = 0 ∨ bz p = 1) = True := by by_cases hp : p <;> simp [bz, hp]
theorem zin {x : Int} {n : Nat} (h1 : 0 ≤ x) (h2 : x < 2147483648) : vp_in (I x) n = (x < n) := by
  rw [vp_in_iff, ztoInt (by omega) h2]
  exact propext ⟨fun q => q.2, fun q => ⟨h1, q⟩⟩
theorem zinT {x : Int} {n : Nat} (h1 : 0 ≤ x) (h2 : x < (n : Int)) (h3 : x < 2147483648) : vp_in (I x) n = True := by rw [zin h1 h3]; exact eq_true h2
theorem zix {x : Int} (h1 : 0 ≤ x) (h2 : x < 2147483648) : (I x).toNatClampNeg = x.toNat := by
  show (I x).toInt.toNat = x.toNat
  rw [ztoInt (by omega) h2]
theorem zofNat (n : Nat) : Int32.ofNat n = I (n : Int) := rfl
theorem zof (x : Int32) : I x.toInt = x := Int32.ofInt_toInt x
theorem zrange (x : Int32) : -2147483648 ≤ x.toInt ∧ x.toInt < 2147483648 := ⟨Int32.le_toInt x, Int32.toInt_lt x⟩
theorem nB0 : (narrow .boolean (.int (I 0)) = .int (I 0)) = True := eq_true (by decide)
theorem nB1 : (narrow .boolean (.int (I 1)) = .int (I 1)) = True := eq_true (by decide)
theorem nBz (p : Prop) : (narrow .boolean (.int (I (bz p))) = .int (I (bz p))) = True := by
  by_cases hp : p
  · rw [bz_T hp]; exact nB1
  · rw [bz_F hp]; exact nB0
theorem nar_b0 : vp_nar .boolean (I 0) = I 0 := by decide
theorem nar_b1 : vp_nar .boolean (I 1) = I 1 := by decide
theorem fkP10 {c : Prop} {post : Option Value → aH → Prop} {h : aH} : fk c (post (some (.int (I 1))) h) (post (some (.int (I 0))) h) = post (some (.int (I (bz c)))) h := fk_bz (fun z => post (some (.int (I z))) h)
theorem fkP01 {c : Prop} {post : Option Value → aH → Prop} {h : aH} : fk c (post (some (.int (I 0))) h) (post (some (.int (I 1))) h) = post (some (.int (I (bz (¬ c))))) h := fk_zb (fun z => post (some (.int (I z))) h)
theorem fkP0z {c p : Prop} {post : Option Value → aH → Prop} {h : aH} : fk c (post (some (.int (I 0))) h) (post (some (.int (I (bz p)))) h) = post (some (.int (I (bz (¬ c ∧ p))))) h := by
  by_cases hc : c
  · rw [fk_pos hc, bz_F (fun q => q.1 hc)]
  · rw [fk_neg hc]; congr 4; exact congrArg bz (propext ⟨fun q => ⟨hc, q⟩, fun q => q.2⟩)
theorem fkPz0 {c p : Prop} {post : Option Value → aH → Prop} {h : aH} : fk c (post (some (.int (I (bz p)))) h) (post (some (.int (I 0))) h) = post (some (.int (I (bz (c ∧ p))))) h := by
  by_cases hc : c
  · rw [fk_pos hc]; congr 4; exact congrArg bz (propext ⟨fun q => ⟨hc, q⟩, fun q => q.2⟩)
  · rw [fk_neg hc, bz_F (fun q => hc q.1)]
theorem fkP1z {c p : Prop} {post : Option Value → aH → Prop} {h : aH} : fk c (post (some (.int (I 1))) h) (post (some (.int (I (bz p)))) h) = post (some (.int (I (bz (c ∨ p))))) h := by
  by_cases hc : c
  · rw [fk_pos hc, bz_T (Or.inl hc)]
  · rw [fk_neg hc]; congr 4; exact congrArg bz (propext ⟨fun q => Or.inr q, fun q => q.resolve_left hc⟩)
theorem fkPz1 {c p : Prop} {post : Option Value → aH → Prop} {h : aH} : fk c (post (some (.int (I (bz p)))) h) (post (some (.int (I 1))) h) = post (some (.int (I (bz (¬ c ∨ p))))) h := by
  by_cases hc : c
  · rw [fk_pos hc]; congr 4; exact congrArg bz (propext ⟨fun q => Or.inr q, fun q => q.resolve_left (fun z => z hc)⟩)
  · rw [fk_neg hc, bz_T (Or.inl hc)]
theorem zmax {x y : Int} (h1 : -2147483648 ≤ x) (h2 : x < 2147483648) (h3 : -2147483648 ≤ y) (h4 : y < 2147483648) : imax (I x) (I y) = I (max x y) := by
  have e : (I x < I y) = (x < y) := by rw [zltI, ztoInt h1 h2, ztoInt h3 h4]
  by_cases c : x < y
  · rw [imax, if_pos (e.mpr c), Int.max_eq_right (by omega)]
  · rw [imax, if_neg (fun q => c (e.mp q)), Int.max_eq_left (by omega)]
theorem zmin {x y : Int} (h1 : -2147483648 ≤ x) (h2 : x < 2147483648) (h3 : -2147483648 ≤ y) (h4 : y < 2147483648) : imin (I x) (I y) = I (min x y) := by
  have e : (I y < I x) = (y < x) := by rw [zltI, ztoInt h1 h2, ztoInt h3 h4]
  by_cases c : y < x
  · rw [imin, if_pos (e.mpr c), Int.min_eq_right (by omega)]
  · rw [imin, if_neg (fun q => c (e.mp q)), Int.min_eq_left (by omega)]
/-- the size of a number -/
def zab (x : Int) : Int := if x < 0 then -x else x
theorem zabs {x : Int} (h1 : -2147483648 ≤ x) (h2 : x < 2147483648) : iabs (I x) = I (zab x) := by
  have e : (I x < 0) = (x < 0) := by rw [zlt0I, ztoInt h1 h2]
  by_cases c : x < 0
  · rw [iabs, if_pos (e.mpr c), zneg, zab, if_pos c]
  · rw [iabs, if_neg (fun q => c (e.mp q)), zab, if_neg c]
/-- loops -/
theorem R_loop {d ce sl y pc : Nat} {post : Option Value → aH → Prop} (lv : Nat → List Value) (hh : Nat → aH) (n : Nat) (step : ∀ i, i < n → R d ce sl y pc (lv i) [] (hh i) post = R d ce sl y pc (lv (i + 1)) [] (hh (i + 1)) post) : R d ce sl y pc (lv 0) [] (hh 0) post = R d ce sl y pc (lv n) [] (hh n) post := by
  induction n with
  | zero => rfl
  | succ n ih => rw [ih (fun i hi => step i (by omega)), step n (by omega)]
theorem R_wf {d ce sl y pc : Nat} {post : Option Value → aH → Prop} (J : Nat → List Value → aH → Prop) (step : ∀ m lv h, J m lv h → (∀ m' lv' h', m' < m → J m' lv' h' → R d ce sl y pc lv' [] h' post) → R d ce sl y pc lv [] h post) : ∀ m lv h, J m lv h → R d ce sl y pc lv [] h post := by
  intro m
  induction m using Nat.strongRecOn with
  | _ m ih => intro lv h hJ; exact step m lv h hJ (fun m' lv' h' hlt hJ' => ih m' hlt lv' h' hJ')
theorem R.imp {d ce sl y pc : Nat} {lv st : List Value} {h : aH} {p1 p2 : Option Value → aH → Prop} (k : R d ce sl y pc lv st h p1) (hp : ∀ r h', p1 r h' → p2 r h') : R d ce sl y pc lv st h p2 := R_mono _ _ _ _ _ _ _ _ _ _ hp k
