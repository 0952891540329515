/-! what the constructors make (written by gen9.py) -/
def hI1 (h : aH) (b n : Nat) : aH := (blk h b 0 (2, 0, 49) n)
theorem jS12 {d b : Nat} {h : aH} {post : Option Value → aH → Prop} (b3 : ¬ b = 1003) : R (d + 1) 0 0 12 0 [.ref b] [] h post = R (d + 1) 0 0 12 4 [.ref b] [] h post := by
  simp only [f12_0, f12_1, b3, a_clr, Option.toList_some, Option.toList_none, List.cons_append, List.nil_append, a_cw, List.map_cons, List.map_nil, List.sum_cons, List.sum_nil, Value.category, ne_eq, not_false_eq_true, true_and, and_true, Nat.reduceLeDiff, Nat.reduceAdd, Nat.reduceEqDiff, or_true, true_or, false_or, and_self, a_sh_fset]
theorem j12_0 {d n b : Nat} {h : aH} {post : Option Value → aH → Prop} (c : CO h n) (hb : b < n) (hn : n + 1 < 990) (sh : a_sh h b = (1, 1, 1)) : R (d + 1) 0 0 12 4 [.ref b] [] h post = R (d + 1) 1 49 12 12 [.ref b] [] (blk h b 0 (2, 0, 49) n) post := by
  have b3 : ¬ b = 1003 := by omega
  have g : a_nn h = n := c.2
  have n1 : (n < 1000) = True := eq_true (by omega)
  have n3 : ¬ n = 1003 := by omega
  have bn : ¬ b = n := by omega
  have fr : a_frs [.ref b] [.ref b] h = True := eq_true (frs1 c (fun v hv r e => by simp at hv; subst hv; cases e; omega) (fun v hv r e => by simp at hv; subst hv; cases e; omega))
  have s1 : a_sh (a_make h (2, 0, 49) (fun _ => .null)) b = (1, 1, 1) := by rw [sh_make, g, if_neg bn]; exact sh
  simp only [f12_4, f12_5, f12_7, f12_9, b3, g, n1, n3, fr, s1, a_clr, Option.toList_some, Option.toList_none, List.cons_append, List.nil_append, a_cw, List.map_cons, List.map_nil, List.sum_cons, List.sum_nil, Value.category, ne_eq, not_false_eq_true, true_and, and_true, Nat.reduceLeDiff, Nat.reduceAdd, Nat.reduceEqDiff, or_true, true_or, false_or, and_self, a_sh_fset]
  rfl
set_option maxHeartbeats 4000000 in
theorem iI1 {d n b : Nat} {h : aH} {post : Option Value → aH → Prop} (c : CO h n) (hb : b < n) (hn : n + 1 < 990) (sh : a_sh h b = (1, 1, 1)) : R (d + 1) 0 0 12 0 [.ref b] [] h post = post none (hI1 h b n) ∧ CO (hI1 h b n) (n + 1) ∧ ∀ a, a < n → a_sh (hI1 h b n) a = a_sh h a := by
  have hb3 : ¬ b = 1003 := by omega
  have hb_0 : b < n := by omega
  have hn_0 : n + 1 < 990 := by omega
  have z0 : CO h n := c
  have y0 : ∀ a, a < n → a_sh h a = a_sh h a := fun _ _ => rfl
  have z1 : CO (blk h b 0 (2, 0, 49) n) (n + 1) := z0.blk (by omega)
  have y1 : ∀ a, a < n → a_sh (blk h b 0 (2, 0, 49) n) a = a_sh h a := fun a ha => (sh_blk z0 (by omega)).trans (y0 a ha)
  refine ⟨?_, z1, y1⟩
  rw [jS12 hb3]
  rw [j12_0 z0 hb_0 hn_0 ((y0 b hb).trans sh)]
  rw [f12_12]
  unfold hI1
  rfl
def hI2 (h : aH) (b n : Nat) : aH := h
theorem jS23 {d b : Nat} {h : aH} {post : Option Value → aH → Prop} (b3 : ¬ b = 1003) : R (d + 1) 0 0 23 0 [.ref b] [] h post = R (d + 1) 0 0 23 4 [.ref b] [] h post := by
  simp only [e23_0, e23_1, b3, a_clr, Option.toList_some, Option.toList_none, List.cons_append, List.nil_append, a_cw, List.map_cons, List.map_nil, List.sum_cons, List.sum_nil, Value.category, ne_eq, not_false_eq_true, true_and, and_true, Nat.reduceLeDiff, Nat.reduceAdd, Nat.reduceEqDiff, or_true, true_or, false_or, and_self, a_sh_fset]
set_option maxHeartbeats 4000000 in
theorem iI2 {d n b : Nat} {h : aH} {post : Option Value → aH → Prop} (c : CO h n) (hb : b < n) (hn : n + 0 < 990) (sh : a_sh h b = (1, 2, 3)) : R (d + 1) 0 0 23 0 [.ref b] [] h post = post none (hI2 h b n) ∧ CO (hI2 h b n) (n + 0) ∧ ∀ a, a < n → a_sh (hI2 h b n) a = a_sh h a := by
  have hb3 : ¬ b = 1003 := by omega
  have z0 : CO h n := c
  have y0 : ∀ a, a < n → a_sh h a = a_sh h a := fun _ _ => rfl
  refine ⟨?_, z0, y0⟩
  rw [jS23 hb3]
  rw [e23_4]
  unfold hI2
  rfl
def hI3 (h : aH) (b n : Nat) : aH := (blk (blk (blk (blk (blk (blk h b 0 (2, 0, 12) n) b 1 (2, 0, 12) (n + 1)) b 2 (2, 0, 12) (n + 2)) b 3 (2, 0, 12) (n + 3)) b 4 (2, 0, 12) (n + 4)) b 5 (2, 0, 12) (n + 5))
theorem jS31 {d b : Nat} {h : aH} {post : Option Value → aH → Prop} (b3 : ¬ b = 1003) : R (d + 1) 0 0 31 0 [.ref b] [] h post = R (d + 1) 0 0 31 4 [.ref b] [] h post := by
  simp only [f31_0, f31_1, b3, a_clr, Option.toList_some, Option.toList_none, List.cons_append, List.nil_append, a_cw, List.map_cons, List.map_nil, List.sum_cons, List.sum_nil, Value.category, ne_eq, not_false_eq_true, true_and, and_true, Nat.reduceLeDiff, Nat.reduceAdd, Nat.reduceEqDiff, or_true, true_or, false_or, and_self, a_sh_fset]
theorem j31_0 {d n b : Nat} {h : aH} {post : Option Value → aH → Prop} (c : CO h n) (hb : b < n) (hn : n + 1 < 990) (sh : a_sh h b = (1, 3, 10)) : R (d + 1) 0 0 31 4 [.ref b] [] h post = R (d + 1) 1 12 31 12 [.ref b] [] (blk h b 0 (2, 0, 12) n) post := by
  have b3 : ¬ b = 1003 := by omega
  have g : a_nn h = n := c.2
  have n1 : (n < 1000) = True := eq_true (by omega)
  have n3 : ¬ n = 1003 := by omega
  have bn : ¬ b = n := by omega
  have fr : a_frs [.ref b] [.ref b] h = True := eq_true (frs1 c (fun v hv r e => by simp at hv; subst hv; cases e; omega) (fun v hv r e => by simp at hv; subst hv; cases e; omega))
  have s1 : a_sh (a_make h (2, 0, 12) (fun _ => .null)) b = (1, 3, 10) := by rw [sh_make, g, if_neg bn]; exact sh
  simp only [f31_4, f31_5, f31_7, f31_9, b3, g, n1, n3, fr, s1, a_clr, Option.toList_some, Option.toList_none, List.cons_append, List.nil_append, a_cw, List.map_cons, List.map_nil, List.sum_cons, List.sum_nil, Value.category, ne_eq, not_false_eq_true, true_and, and_true, Nat.reduceLeDiff, Nat.reduceAdd, Nat.reduceEqDiff, or_true, true_or, false_or, and_self, a_sh_fset]
  rfl
theorem j31_1 {d n b : Nat} {h : aH} {post : Option Value → aH → Prop} (c : CO h n) (hb : b < n) (hn : n + 1 < 990) (sh : a_sh h b = (1, 3, 10)) : R (d + 1) 1 12 31 12 [.ref b] [] h post = R (d + 1) 2 24 31 20 [.ref b] [] (blk h b 1 (2, 0, 12) n) post := by
  have b3 : ¬ b = 1003 := by omega
  have g : a_nn h = n := c.2
  have n1 : (n < 1000) = True := eq_true (by omega)
  have n3 : ¬ n = 1003 := by omega
  have bn : ¬ b = n := by omega
  have fr : a_frs [.ref b] [.ref b] h = True := eq_true (frs1 c (fun v hv r e => by simp at hv; subst hv; cases e; omega) (fun v hv r e => by simp at hv; subst hv; cases e; omega))
  have s1 : a_sh (a_make h (2, 0, 12) (fun _ => .null)) b = (1, 3, 10) := by rw [sh_make, g, if_neg bn]; exact sh
  simp only [f31_12, f31_13, f31_15, f31_17, b3, g, n1, n3, fr, s1, a_clr, Option.toList_some, Option.toList_none, List.cons_append, List.nil_append, a_cw, List.map_cons, List.map_nil, List.sum_cons, List.sum_nil, Value.category, ne_eq, not_false_eq_true, true_and, and_true, Nat.reduceLeDiff, Nat.reduceAdd, Nat.reduceEqDiff, or_true, true_or, false_or, and_self, a_sh_fset]
  rfl
theorem j31_2 {d n b : Nat} {h : aH} {post : Option Value → aH → Prop} (c : CO h n) (hb : b < n) (hn : n + 1 < 990) (sh : a_sh h b = (1, 3, 10)) : R (d + 1) 2 24 31 20 [.ref b] [] h post = R (d + 1) 3 36 31 28 [.ref b] [] (blk h b 2 (2, 0, 12) n) post := by
  have b3 : ¬ b = 1003 := by omega
  have g : a_nn h = n := c.2
  have n1 : (n < 1000) = True := eq_true (by omega)
  have n3 : ¬ n = 1003 := by omega
  have bn : ¬ b = n := by omega
  have fr : a_frs [.ref b] [.ref b] h = True := eq_true (frs1 c (fun v hv r e => by simp at hv; subst hv; cases e; omega) (fun v hv r e => by simp at hv; subst hv; cases e; omega))
  have s1 : a_sh (a_make h (2, 0, 12) (fun _ => .null)) b = (1, 3, 10) := by rw [sh_make, g, if_neg bn]; exact sh
  simp only [f31_20, f31_21, f31_23, f31_25, b3, g, n1, n3, fr, s1, a_clr, Option.toList_some, Option.toList_none, List.cons_append, List.nil_append, a_cw, List.map_cons, List.map_nil, List.sum_cons, List.sum_nil, Value.category, ne_eq, not_false_eq_true, true_and, and_true, Nat.reduceLeDiff, Nat.reduceAdd, Nat.reduceEqDiff, or_true, true_or, false_or, and_self, a_sh_fset]
  rfl
theorem j31_3 {d n b : Nat} {h : aH} {post : Option Value → aH → Prop} (c : CO h n) (hb : b < n) (hn : n + 1 < 990) (sh : a_sh h b = (1, 3, 10)) : R (d + 1) 3 36 31 28 [.ref b] [] h post = R (d + 1) 4 48 31 36 [.ref b] [] (blk h b 3 (2, 0, 12) n) post := by
  have b3 : ¬ b = 1003 := by omega
  have g : a_nn h = n := c.2
  have n1 : (n < 1000) = True := eq_true (by omega)
  have n3 : ¬ n = 1003 := by omega
  have bn : ¬ b = n := by omega
  have fr : a_frs [.ref b] [.ref b] h = True := eq_true (frs1 c (fun v hv r e => by simp at hv; subst hv; cases e; omega) (fun v hv r e => by simp at hv; subst hv; cases e; omega))
  have s1 : a_sh (a_make h (2, 0, 12) (fun _ => .null)) b = (1, 3, 10) := by rw [sh_make, g, if_neg bn]; exact sh
  simp only [f31_28, f31_29, f31_31, f31_33, b3, g, n1, n3, fr, s1, a_clr, Option.toList_some, Option.toList_none, List.cons_append, List.nil_append, a_cw, List.map_cons, List.map_nil, List.sum_cons, List.sum_nil, Value.category, ne_eq, not_false_eq_true, true_and, and_true, Nat.reduceLeDiff, Nat.reduceAdd, Nat.reduceEqDiff, or_true, true_or, false_or, and_self, a_sh_fset]
  rfl
theorem j31_4 {d n b : Nat} {h : aH} {post : Option Value → aH → Prop} (c : CO h n) (hb : b < n) (hn : n + 1 < 990) (sh : a_sh h b = (1, 3, 10)) : R (d + 1) 4 48 31 36 [.ref b] [] h post = R (d + 1) 5 60 31 44 [.ref b] [] (blk h b 4 (2, 0, 12) n) post := by
  have b3 : ¬ b = 1003 := by omega
  have g : a_nn h = n := c.2
  have n1 : (n < 1000) = True := eq_true (by omega)
  have n3 : ¬ n = 1003 := by omega
  have bn : ¬ b = n := by omega
  have fr : a_frs [.ref b] [.ref b] h = True := eq_true (frs1 c (fun v hv r e => by simp at hv; subst hv; cases e; omega) (fun v hv r e => by simp at hv; subst hv; cases e; omega))
  have s1 : a_sh (a_make h (2, 0, 12) (fun _ => .null)) b = (1, 3, 10) := by rw [sh_make, g, if_neg bn]; exact sh
  simp only [f31_36, f31_37, f31_39, f31_41, b3, g, n1, n3, fr, s1, a_clr, Option.toList_some, Option.toList_none, List.cons_append, List.nil_append, a_cw, List.map_cons, List.map_nil, List.sum_cons, List.sum_nil, Value.category, ne_eq, not_false_eq_true, true_and, and_true, Nat.reduceLeDiff, Nat.reduceAdd, Nat.reduceEqDiff, or_true, true_or, false_or, and_self, a_sh_fset]
  rfl
theorem j31_5 {d n b : Nat} {h : aH} {post : Option Value → aH → Prop} (c : CO h n) (hb : b < n) (hn : n + 1 < 990) (sh : a_sh h b = (1, 3, 10)) : R (d + 1) 5 60 31 44 [.ref b] [] h post = R (d + 1) 6 72 31 52 [.ref b] [] (blk h b 5 (2, 0, 12) n) post := by
  have b3 : ¬ b = 1003 := by omega
  have g : a_nn h = n := c.2
  have n1 : (n < 1000) = True := eq_true (by omega)
  have n3 : ¬ n = 1003 := by omega
  have bn : ¬ b = n := by omega
  have fr : a_frs [.ref b] [.ref b] h = True := eq_true (frs1 c (fun v hv r e => by simp at hv; subst hv; cases e; omega) (fun v hv r e => by simp at hv; subst hv; cases e; omega))
  have s1 : a_sh (a_make h (2, 0, 12) (fun _ => .null)) b = (1, 3, 10) := by rw [sh_make, g, if_neg bn]; exact sh
  simp only [f31_44, f31_45, f31_47, f31_49, b3, g, n1, n3, fr, s1, a_clr, Option.toList_some, Option.toList_none, List.cons_append, List.nil_append, a_cw, List.map_cons, List.map_nil, List.sum_cons, List.sum_nil, Value.category, ne_eq, not_false_eq_true, true_and, and_true, Nat.reduceLeDiff, Nat.reduceAdd, Nat.reduceEqDiff, or_true, true_or, false_or, and_self, a_sh_fset]
  rfl
set_option maxHeartbeats 4000000 in
theorem iI3 {d n b : Nat} {h : aH} {post : Option Value → aH → Prop} (c : CO h n) (hb : b < n) (hn : n + 6 < 990) (sh : a_sh h b = (1, 3, 10)) : R (d + 1) 0 0 31 0 [.ref b] [] h post = post none (hI3 h b n) ∧ CO (hI3 h b n) (n + 6) ∧ ∀ a, a < n → a_sh (hI3 h b n) a = a_sh h a := by
  have hb3 : ¬ b = 1003 := by omega
  have hb_0 : b < n := by omega
  have hn_0 : n + 1 < 990 := by omega
  have hb_1 : b < n + 1 := by omega
  have hn_1 : n + 1 + 1 < 990 := by omega
  have hb_2 : b < n + 2 := by omega
  have hn_2 : n + 2 + 1 < 990 := by omega
  have hb_3 : b < n + 3 := by omega
  have hn_3 : n + 3 + 1 < 990 := by omega
  have hb_4 : b < n + 4 := by omega
  have hn_4 : n + 4 + 1 < 990 := by omega
  have hb_5 : b < n + 5 := by omega
  have hn_5 : n + 5 + 1 < 990 := by omega
  have z0 : CO h n := c
  have y0 : ∀ a, a < n → a_sh h a = a_sh h a := fun _ _ => rfl
  have z1 : CO (blk h b 0 (2, 0, 12) n) (n + 1) := z0.blk (by omega)
  have y1 : ∀ a, a < n → a_sh (blk h b 0 (2, 0, 12) n) a = a_sh h a := fun a ha => (sh_blk z0 (by omega)).trans (y0 a ha)
  have z2 : CO (blk (blk h b 0 (2, 0, 12) n) b 1 (2, 0, 12) (n + 1)) (n + 2) := z1.blk (by omega)
  have y2 : ∀ a, a < n → a_sh (blk (blk h b 0 (2, 0, 12) n) b 1 (2, 0, 12) (n + 1)) a = a_sh h a := fun a ha => (sh_blk z1 (by omega)).trans (y1 a ha)
  have z3 : CO (blk (blk (blk h b 0 (2, 0, 12) n) b 1 (2, 0, 12) (n + 1)) b 2 (2, 0, 12) (n + 2)) (n + 3) := z2.blk (by omega)
  have y3 : ∀ a, a < n → a_sh (blk (blk (blk h b 0 (2, 0, 12) n) b 1 (2, 0, 12) (n + 1)) b 2 (2, 0, 12) (n + 2)) a = a_sh h a := fun a ha => (sh_blk z2 (by omega)).trans (y2 a ha)
  have z4 : CO (blk (blk (blk (blk h b 0 (2, 0, 12) n) b 1 (2, 0, 12) (n + 1)) b 2 (2, 0, 12) (n + 2)) b 3 (2, 0, 12) (n + 3)) (n + 4) := z3.blk (by omega)
  have y4 : ∀ a, a < n → a_sh (blk (blk (blk (blk h b 0 (2, 0, 12) n) b 1 (2, 0, 12) (n + 1)) b 2 (2, 0, 12) (n + 2)) b 3 (2, 0, 12) (n + 3)) a = a_sh h a := fun a ha => (sh_blk z3 (by omega)).trans (y3 a ha)
  have z5 : CO (blk (blk (blk (blk (blk h b 0 (2, 0, 12) n) b 1 (2, 0, 12) (n + 1)) b 2 (2, 0, 12) (n + 2)) b 3 (2, 0, 12) (n + 3)) b 4 (2, 0, 12) (n + 4)) (n + 5) := z4.blk (by omega)
  have y5 : ∀ a, a < n → a_sh (blk (blk (blk (blk (blk h b 0 (2, 0, 12) n) b 1 (2, 0, 12) (n + 1)) b 2 (2, 0, 12) (n + 2)) b 3 (2, 0, 12) (n + 3)) b 4 (2, 0, 12) (n + 4)) a = a_sh h a := fun a ha => (sh_blk z4 (by omega)).trans (y4 a ha)
  have z6 : CO (blk (blk (blk (blk (blk (blk h b 0 (2, 0, 12) n) b 1 (2, 0, 12) (n + 1)) b 2 (2, 0, 12) (n + 2)) b 3 (2, 0, 12) (n + 3)) b 4 (2, 0, 12) (n + 4)) b 5 (2, 0, 12) (n + 5)) (n + 6) := z5.blk (by omega)
  have y6 : ∀ a, a < n → a_sh (blk (blk (blk (blk (blk (blk h b 0 (2, 0, 12) n) b 1 (2, 0, 12) (n + 1)) b 2 (2, 0, 12) (n + 2)) b 3 (2, 0, 12) (n + 3)) b 4 (2, 0, 12) (n + 4)) b 5 (2, 0, 12) (n + 5)) a = a_sh h a := fun a ha => (sh_blk z5 (by omega)).trans (y5 a ha)
  refine ⟨?_, z6, y6⟩
  rw [jS31 hb3]
  rw [j31_0 z0 hb_0 hn_0 ((y0 b hb).trans sh)]
  rw [j31_1 z1 hb_1 hn_1 ((y1 b hb).trans sh)]
  rw [j31_2 z2 hb_2 hn_2 ((y2 b hb).trans sh)]
  rw [j31_3 z3 hb_3 hn_3 ((y3 b hb).trans sh)]
  rw [j31_4 z4 hb_4 hn_4 ((y4 b hb).trans sh)]
  rw [j31_5 z5 hb_5 hn_5 ((y5 b hb).trans sh)]
  rw [f31_52]
  unfold hI3
  rfl
def hI4 (h : aH) (b n : Nat) : aH := (blk (blk (blk h b 0 (2, 0, 8) n) b 1 (2, 0, 8) (n + 1)) b 2 (2, 0, 20) (n + 2))
theorem jS51 {d b : Nat} {h : aH} {post : Option Value → aH → Prop} (b3 : ¬ b = 1003) : R (d + 1) 0 0 51 0 [.ref b] [] h post = R (d + 1) 0 0 51 4 [.ref b] [] h post := by
  simp only [f51_0, f51_1, b3, a_clr, Option.toList_some, Option.toList_none, List.cons_append, List.nil_append, a_cw, List.map_cons, List.map_nil, List.sum_cons, List.sum_nil, Value.category, ne_eq, not_false_eq_true, true_and, and_true, Nat.reduceLeDiff, Nat.reduceAdd, Nat.reduceEqDiff, or_true, true_or, false_or, and_self, a_sh_fset]
theorem j51_0 {d n b : Nat} {h : aH} {post : Option Value → aH → Prop} (c : CO h n) (hb : b < n) (hn : n + 1 < 990) (sh : a_sh h b = (1, 4, 8)) : R (d + 1) 0 0 51 4 [.ref b] [] h post = R (d + 1) 1 8 51 12 [.ref b] [] (blk h b 0 (2, 0, 8) n) post := by
  have b3 : ¬ b = 1003 := by omega
  have g : a_nn h = n := c.2
  have n1 : (n < 1000) = True := eq_true (by omega)
  have n3 : ¬ n = 1003 := by omega
  have bn : ¬ b = n := by omega
  have fr : a_frs [.ref b] [.ref b] h = True := eq_true (frs1 c (fun v hv r e => by simp at hv; subst hv; cases e; omega) (fun v hv r e => by simp at hv; subst hv; cases e; omega))
  have s1 : a_sh (a_make h (2, 0, 8) (fun _ => .null)) b = (1, 4, 8) := by rw [sh_make, g, if_neg bn]; exact sh
  simp only [f51_4, f51_5, f51_7, f51_9, b3, g, n1, n3, fr, s1, a_clr, Option.toList_some, Option.toList_none, List.cons_append, List.nil_append, a_cw, List.map_cons, List.map_nil, List.sum_cons, List.sum_nil, Value.category, ne_eq, not_false_eq_true, true_and, and_true, Nat.reduceLeDiff, Nat.reduceAdd, Nat.reduceEqDiff, or_true, true_or, false_or, and_self, a_sh_fset]
  rfl
theorem j51_1 {d n b : Nat} {h : aH} {post : Option Value → aH → Prop} (c : CO h n) (hb : b < n) (hn : n + 1 < 990) (sh : a_sh h b = (1, 4, 8)) : R (d + 1) 1 8 51 12 [.ref b] [] h post = R (d + 1) 2 16 51 20 [.ref b] [] (blk h b 1 (2, 0, 8) n) post := by
  have b3 : ¬ b = 1003 := by omega
  have g : a_nn h = n := c.2
  have n1 : (n < 1000) = True := eq_true (by omega)
  have n3 : ¬ n = 1003 := by omega
  have bn : ¬ b = n := by omega
  have fr : a_frs [.ref b] [.ref b] h = True := eq_true (frs1 c (fun v hv r e => by simp at hv; subst hv; cases e; omega) (fun v hv r e => by simp at hv; subst hv; cases e; omega))
  have s1 : a_sh (a_make h (2, 0, 8) (fun _ => .null)) b = (1, 4, 8) := by rw [sh_make, g, if_neg bn]; exact sh
  simp only [f51_12, f51_13, f51_15, f51_17, b3, g, n1, n3, fr, s1, a_clr, Option.toList_some, Option.toList_none, List.cons_append, List.nil_append, a_cw, List.map_cons, List.map_nil, List.sum_cons, List.sum_nil, Value.category, ne_eq, not_false_eq_true, true_and, and_true, Nat.reduceLeDiff, Nat.reduceAdd, Nat.reduceEqDiff, or_true, true_or, false_or, and_self, a_sh_fset]
  rfl
theorem j51_2 {d n b : Nat} {h : aH} {post : Option Value → aH → Prop} (c : CO h n) (hb : b < n) (hn : n + 1 < 990) (sh : a_sh h b = (1, 4, 8)) : R (d + 1) 2 16 51 20 [.ref b] [] h post = R (d + 1) 3 36 51 28 [.ref b] [] (blk h b 2 (2, 0, 20) n) post := by
  have b3 : ¬ b = 1003 := by omega
  have g : a_nn h = n := c.2
  have n1 : (n < 1000) = True := eq_true (by omega)
  have n3 : ¬ n = 1003 := by omega
  have bn : ¬ b = n := by omega
  have fr : a_frs [.ref b] [.ref b] h = True := eq_true (frs1 c (fun v hv r e => by simp at hv; subst hv; cases e; omega) (fun v hv r e => by simp at hv; subst hv; cases e; omega))
  have s1 : a_sh (a_make h (2, 0, 20) (fun _ => .null)) b = (1, 4, 8) := by rw [sh_make, g, if_neg bn]; exact sh
  simp only [f51_20, f51_21, f51_23, f51_25, b3, g, n1, n3, fr, s1, a_clr, Option.toList_some, Option.toList_none, List.cons_append, List.nil_append, a_cw, List.map_cons, List.map_nil, List.sum_cons, List.sum_nil, Value.category, ne_eq, not_false_eq_true, true_and, and_true, Nat.reduceLeDiff, Nat.reduceAdd, Nat.reduceEqDiff, or_true, true_or, false_or, and_self, a_sh_fset]
  rfl
set_option maxHeartbeats 4000000 in
theorem iI4 {d n b : Nat} {h : aH} {post : Option Value → aH → Prop} (c : CO h n) (hb : b < n) (hn : n + 3 < 990) (sh : a_sh h b = (1, 4, 8)) : R (d + 1) 0 0 51 0 [.ref b] [] h post = post none (hI4 h b n) ∧ CO (hI4 h b n) (n + 3) ∧ ∀ a, a < n → a_sh (hI4 h b n) a = a_sh h a := by
  have hb3 : ¬ b = 1003 := by omega
  have hb_0 : b < n := by omega
  have hn_0 : n + 1 < 990 := by omega
  have hb_1 : b < n + 1 := by omega
  have hn_1 : n + 1 + 1 < 990 := by omega
  have hb_2 : b < n + 2 := by omega
  have hn_2 : n + 2 + 1 < 990 := by omega
  have z0 : CO h n := c
  have y0 : ∀ a, a < n → a_sh h a = a_sh h a := fun _ _ => rfl
  have z1 : CO (blk h b 0 (2, 0, 8) n) (n + 1) := z0.blk (by omega)
  have y1 : ∀ a, a < n → a_sh (blk h b 0 (2, 0, 8) n) a = a_sh h a := fun a ha => (sh_blk z0 (by omega)).trans (y0 a ha)
  have z2 : CO (blk (blk h b 0 (2, 0, 8) n) b 1 (2, 0, 8) (n + 1)) (n + 2) := z1.blk (by omega)
  have y2 : ∀ a, a < n → a_sh (blk (blk h b 0 (2, 0, 8) n) b 1 (2, 0, 8) (n + 1)) a = a_sh h a := fun a ha => (sh_blk z1 (by omega)).trans (y1 a ha)
  have z3 : CO (blk (blk (blk h b 0 (2, 0, 8) n) b 1 (2, 0, 8) (n + 1)) b 2 (2, 0, 20) (n + 2)) (n + 3) := z2.blk (by omega)
  have y3 : ∀ a, a < n → a_sh (blk (blk (blk h b 0 (2, 0, 8) n) b 1 (2, 0, 8) (n + 1)) b 2 (2, 0, 20) (n + 2)) a = a_sh h a := fun a ha => (sh_blk z2 (by omega)).trans (y2 a ha)
  refine ⟨?_, z3, y3⟩
  rw [jS51 hb3]
  rw [j51_0 z0 hb_0 hn_0 ((y0 b hb).trans sh)]
  rw [j51_1 z1 hb_1 hn_1 ((y1 b hb).trans sh)]
  rw [j51_2 z2 hb_2 hn_2 ((y2 b hb).trans sh)]
  rw [f51_28]
  unfold hI4
  rfl
def hI5 (h : aH) (b n : Nat) : aH := (blk (blk (blk (blk h b 0 (2, 0, 6) n) b 1 (2, 0, 6) (n + 1)) b 2 (2, 0, 6) (n + 2)) b 3 (2, 0, 12) (n + 3))
theorem jS64 {d b : Nat} {h : aH} {post : Option Value → aH → Prop} (b3 : ¬ b = 1003) : R (d + 1) 0 0 64 0 [.ref b] [] h post = R (d + 1) 0 0 64 4 [.ref b] [] h post := by
  simp only [f64_0, f64_1, b3, a_clr, Option.toList_some, Option.toList_none, List.cons_append, List.nil_append, a_cw, List.map_cons, List.map_nil, List.sum_cons, List.sum_nil, Value.category, ne_eq, not_false_eq_true, true_and, and_true, Nat.reduceLeDiff, Nat.reduceAdd, Nat.reduceEqDiff, or_true, true_or, false_or, and_self, a_sh_fset]
theorem j64_0 {d n b : Nat} {h : aH} {post : Option Value → aH → Prop} (c : CO h n) (hb : b < n) (hn : n + 1 < 990) (sh : a_sh h b = (1, 5, 5)) : R (d + 1) 0 0 64 4 [.ref b] [] h post = R (d + 1) 1 6 64 12 [.ref b] [] (blk h b 0 (2, 0, 6) n) post := by
  have b3 : ¬ b = 1003 := by omega
  have g : a_nn h = n := c.2
  have n1 : (n < 1000) = True := eq_true (by omega)
  have n3 : ¬ n = 1003 := by omega
  have bn : ¬ b = n := by omega
  have fr : a_frs [.ref b] [.ref b] h = True := eq_true (frs1 c (fun v hv r e => by simp at hv; subst hv; cases e; omega) (fun v hv r e => by simp at hv; subst hv; cases e; omega))
  have s1 : a_sh (a_make h (2, 0, 6) (fun _ => .null)) b = (1, 5, 5) := by rw [sh_make, g, if_neg bn]; exact sh
  simp only [f64_4, f64_5, f64_7, f64_9, b3, g, n1, n3, fr, s1, a_clr, Option.toList_some, Option.toList_none, List.cons_append, List.nil_append, a_cw, List.map_cons, List.map_nil, List.sum_cons, List.sum_nil, Value.category, ne_eq, not_false_eq_true, true_and, and_true, Nat.reduceLeDiff, Nat.reduceAdd, Nat.reduceEqDiff, or_true, true_or, false_or, and_self, a_sh_fset]
  rfl
theorem j64_1 {d n b : Nat} {h : aH} {post : Option Value → aH → Prop} (c : CO h n) (hb : b < n) (hn : n + 1 < 990) (sh : a_sh h b = (1, 5, 5)) : R (d + 1) 1 6 64 12 [.ref b] [] h post = R (d + 1) 2 12 64 20 [.ref b] [] (blk h b 1 (2, 0, 6) n) post := by
  have b3 : ¬ b = 1003 := by omega
  have g : a_nn h = n := c.2
  have n1 : (n < 1000) = True := eq_true (by omega)
  have n3 : ¬ n = 1003 := by omega
  have bn : ¬ b = n := by omega
  have fr : a_frs [.ref b] [.ref b] h = True := eq_true (frs1 c (fun v hv r e => by simp at hv; subst hv; cases e; omega) (fun v hv r e => by simp at hv; subst hv; cases e; omega))
  have s1 : a_sh (a_make h (2, 0, 6) (fun _ => .null)) b = (1, 5, 5) := by rw [sh_make, g, if_neg bn]; exact sh
  simp only [f64_12, f64_13, f64_15, f64_17, b3, g, n1, n3, fr, s1, a_clr, Option.toList_some, Option.toList_none, List.cons_append, List.nil_append, a_cw, List.map_cons, List.map_nil, List.sum_cons, List.sum_nil, Value.category, ne_eq, not_false_eq_true, true_and, and_true, Nat.reduceLeDiff, Nat.reduceAdd, Nat.reduceEqDiff, or_true, true_or, false_or, and_self, a_sh_fset]
  rfl
theorem j64_2 {d n b : Nat} {h : aH} {post : Option Value → aH → Prop} (c : CO h n) (hb : b < n) (hn : n + 1 < 990) (sh : a_sh h b = (1, 5, 5)) : R (d + 1) 2 12 64 20 [.ref b] [] h post = R (d + 1) 3 18 64 28 [.ref b] [] (blk h b 2 (2, 0, 6) n) post := by
  have b3 : ¬ b = 1003 := by omega
  have g : a_nn h = n := c.2
  have n1 : (n < 1000) = True := eq_true (by omega)
  have n3 : ¬ n = 1003 := by omega
  have bn : ¬ b = n := by omega
  have fr : a_frs [.ref b] [.ref b] h = True := eq_true (frs1 c (fun v hv r e => by simp at hv; subst hv; cases e; omega) (fun v hv r e => by simp at hv; subst hv; cases e; omega))
  have s1 : a_sh (a_make h (2, 0, 6) (fun _ => .null)) b = (1, 5, 5) := by rw [sh_make, g, if_neg bn]; exact sh
  simp only [f64_20, f64_21, f64_23, f64_25, b3, g, n1, n3, fr, s1, a_clr, Option.toList_some, Option.toList_none, List.cons_append, List.nil_append, a_cw, List.map_cons, List.map_nil, List.sum_cons, List.sum_nil, Value.category, ne_eq, not_false_eq_true, true_and, and_true, Nat.reduceLeDiff, Nat.reduceAdd, Nat.reduceEqDiff, or_true, true_or, false_or, and_self, a_sh_fset]
  rfl
theorem j64_3 {d n b : Nat} {h : aH} {post : Option Value → aH → Prop} (c : CO h n) (hb : b < n) (hn : n + 1 < 990) (sh : a_sh h b = (1, 5, 5)) : R (d + 1) 3 18 64 28 [.ref b] [] h post = R (d + 1) 4 30 64 36 [.ref b] [] (blk h b 3 (2, 0, 12) n) post := by
  have b3 : ¬ b = 1003 := by omega
  have g : a_nn h = n := c.2
  have n1 : (n < 1000) = True := eq_true (by omega)
  have n3 : ¬ n = 1003 := by omega
  have bn : ¬ b = n := by omega
  have fr : a_frs [.ref b] [.ref b] h = True := eq_true (frs1 c (fun v hv r e => by simp at hv; subst hv; cases e; omega) (fun v hv r e => by simp at hv; subst hv; cases e; omega))
  have s1 : a_sh (a_make h (2, 0, 12) (fun _ => .null)) b = (1, 5, 5) := by rw [sh_make, g, if_neg bn]; exact sh
  simp only [f64_28, f64_29, f64_31, f64_33, b3, g, n1, n3, fr, s1, a_clr, Option.toList_some, Option.toList_none, List.cons_append, List.nil_append, a_cw, List.map_cons, List.map_nil, List.sum_cons, List.sum_nil, Value.category, ne_eq, not_false_eq_true, true_and, and_true, Nat.reduceLeDiff, Nat.reduceAdd, Nat.reduceEqDiff, or_true, true_or, false_or, and_self, a_sh_fset]
  rfl
set_option maxHeartbeats 4000000 in
theorem iI5 {d n b : Nat} {h : aH} {post : Option Value → aH → Prop} (c : CO h n) (hb : b < n) (hn : n + 4 < 990) (sh : a_sh h b = (1, 5, 5)) : R (d + 1) 0 0 64 0 [.ref b] [] h post = post none (hI5 h b n) ∧ CO (hI5 h b n) (n + 4) ∧ ∀ a, a < n → a_sh (hI5 h b n) a = a_sh h a := by
  have hb3 : ¬ b = 1003 := by omega
  have hb_0 : b < n := by omega
  have hn_0 : n + 1 < 990 := by omega
  have hb_1 : b < n + 1 := by omega
  have hn_1 : n + 1 + 1 < 990 := by omega
  have hb_2 : b < n + 2 := by omega
  have hn_2 : n + 2 + 1 < 990 := by omega
  have hb_3 : b < n + 3 := by omega
  have hn_3 : n + 3 + 1 < 990 := by omega
  have z0 : CO h n := c
  have y0 : ∀ a, a < n → a_sh h a = a_sh h a := fun _ _ => rfl
  have z1 : CO (blk h b 0 (2, 0, 6) n) (n + 1) := z0.blk (by omega)
  have y1 : ∀ a, a < n → a_sh (blk h b 0 (2, 0, 6) n) a = a_sh h a := fun a ha => (sh_blk z0 (by omega)).trans (y0 a ha)
  have z2 : CO (blk (blk h b 0 (2, 0, 6) n) b 1 (2, 0, 6) (n + 1)) (n + 2) := z1.blk (by omega)
  have y2 : ∀ a, a < n → a_sh (blk (blk h b 0 (2, 0, 6) n) b 1 (2, 0, 6) (n + 1)) a = a_sh h a := fun a ha => (sh_blk z1 (by omega)).trans (y1 a ha)
  have z3 : CO (blk (blk (blk h b 0 (2, 0, 6) n) b 1 (2, 0, 6) (n + 1)) b 2 (2, 0, 6) (n + 2)) (n + 3) := z2.blk (by omega)
  have y3 : ∀ a, a < n → a_sh (blk (blk (blk h b 0 (2, 0, 6) n) b 1 (2, 0, 6) (n + 1)) b 2 (2, 0, 6) (n + 2)) a = a_sh h a := fun a ha => (sh_blk z2 (by omega)).trans (y2 a ha)
  have z4 : CO (blk (blk (blk (blk h b 0 (2, 0, 6) n) b 1 (2, 0, 6) (n + 1)) b 2 (2, 0, 6) (n + 2)) b 3 (2, 0, 12) (n + 3)) (n + 4) := z3.blk (by omega)
  have y4 : ∀ a, a < n → a_sh (blk (blk (blk (blk h b 0 (2, 0, 6) n) b 1 (2, 0, 6) (n + 1)) b 2 (2, 0, 6) (n + 2)) b 3 (2, 0, 12) (n + 3)) a = a_sh h a := fun a ha => (sh_blk z3 (by omega)).trans (y3 a ha)
  refine ⟨?_, z4, y4⟩
  rw [jS64 hb3]
  rw [j64_0 z0 hb_0 hn_0 ((y0 b hb).trans sh)]
  rw [j64_1 z1 hb_1 hn_1 ((y1 b hb).trans sh)]
  rw [j64_2 z2 hb_2 hn_2 ((y2 b hb).trans sh)]
  rw [j64_3 z3 hb_3 hn_3 ((y3 b hb).trans sh)]
  rw [f64_36]
  unfold hI5
  rfl
def hI6 (h : aH) (b n : Nat) : aH := (blk (blk h b 0 (2, 0, 36) n) b 1 (2, 0, 36) (n + 1))
theorem jS71 {d b : Nat} {h : aH} {post : Option Value → aH → Prop} (b3 : ¬ b = 1003) : R (d + 1) 0 0 71 0 [.ref b] [] h post = R (d + 1) 0 0 71 4 [.ref b] [] h post := by
  simp only [f71_0, f71_1, b3, a_clr, Option.toList_some, Option.toList_none, List.cons_append, List.nil_append, a_cw, List.map_cons, List.map_nil, List.sum_cons, List.sum_nil, Value.category, ne_eq, not_false_eq_true, true_and, and_true, Nat.reduceLeDiff, Nat.reduceAdd, Nat.reduceEqDiff, or_true, true_or, false_or, and_self, a_sh_fset]
theorem j71_0 {d n b : Nat} {h : aH} {post : Option Value → aH → Prop} (c : CO h n) (hb : b < n) (hn : n + 1 < 990) (sh : a_sh h b = (1, 6, 2)) : R (d + 1) 0 0 71 4 [.ref b] [] h post = R (d + 1) 1 36 71 12 [.ref b] [] (blk h b 0 (2, 0, 36) n) post := by
  have b3 : ¬ b = 1003 := by omega
  have g : a_nn h = n := c.2
  have n1 : (n < 1000) = True := eq_true (by omega)
  have n3 : ¬ n = 1003 := by omega
  have bn : ¬ b = n := by omega
  have fr : a_frs [.ref b] [.ref b] h = True := eq_true (frs1 c (fun v hv r e => by simp at hv; subst hv; cases e; omega) (fun v hv r e => by simp at hv; subst hv; cases e; omega))
  have s1 : a_sh (a_make h (2, 0, 36) (fun _ => .null)) b = (1, 6, 2) := by rw [sh_make, g, if_neg bn]; exact sh
  simp only [f71_4, f71_5, f71_7, f71_9, b3, g, n1, n3, fr, s1, a_clr, Option.toList_some, Option.toList_none, List.cons_append, List.nil_append, a_cw, List.map_cons, List.map_nil, List.sum_cons, List.sum_nil, Value.category, ne_eq, not_false_eq_true, true_and, and_true, Nat.reduceLeDiff, Nat.reduceAdd, Nat.reduceEqDiff, or_true, true_or, false_or, and_self, a_sh_fset]
  rfl
theorem j71_1 {d n b : Nat} {h : aH} {post : Option Value → aH → Prop} (c : CO h n) (hb : b < n) (hn : n + 1 < 990) (sh : a_sh h b = (1, 6, 2)) : R (d + 1) 1 36 71 12 [.ref b] [] h post = R (d + 1) 2 72 71 20 [.ref b] [] (blk h b 1 (2, 0, 36) n) post := by
  have b3 : ¬ b = 1003 := by omega
  have g : a_nn h = n := c.2
  have n1 : (n < 1000) = True := eq_true (by omega)
  have n3 : ¬ n = 1003 := by omega
  have bn : ¬ b = n := by omega
  have fr : a_frs [.ref b] [.ref b] h = True := eq_true (frs1 c (fun v hv r e => by simp at hv; subst hv; cases e; omega) (fun v hv r e => by simp at hv; subst hv; cases e; omega))
  have s1 : a_sh (a_make h (2, 0, 36) (fun _ => .null)) b = (1, 6, 2) := by rw [sh_make, g, if_neg bn]; exact sh
  simp only [f71_12, f71_13, f71_15, f71_17, b3, g, n1, n3, fr, s1, a_clr, Option.toList_some, Option.toList_none, List.cons_append, List.nil_append, a_cw, List.map_cons, List.map_nil, List.sum_cons, List.sum_nil, Value.category, ne_eq, not_false_eq_true, true_and, and_true, Nat.reduceLeDiff, Nat.reduceAdd, Nat.reduceEqDiff, or_true, true_or, false_or, and_self, a_sh_fset]
  rfl
set_option maxHeartbeats 4000000 in
theorem iI6 {d n b : Nat} {h : aH} {post : Option Value → aH → Prop} (c : CO h n) (hb : b < n) (hn : n + 2 < 990) (sh : a_sh h b = (1, 6, 2)) : R (d + 1) 0 0 71 0 [.ref b] [] h post = post none (hI6 h b n) ∧ CO (hI6 h b n) (n + 2) ∧ ∀ a, a < n → a_sh (hI6 h b n) a = a_sh h a := by
  have hb3 : ¬ b = 1003 := by omega
  have hb_0 : b < n := by omega
  have hn_0 : n + 1 < 990 := by omega
  have hb_1 : b < n + 1 := by omega
  have hn_1 : n + 1 + 1 < 990 := by omega
  have z0 : CO h n := c
  have y0 : ∀ a, a < n → a_sh h a = a_sh h a := fun _ _ => rfl
  have z1 : CO (blk h b 0 (2, 0, 36) n) (n + 1) := z0.blk (by omega)
  have y1 : ∀ a, a < n → a_sh (blk h b 0 (2, 0, 36) n) a = a_sh h a := fun a ha => (sh_blk z0 (by omega)).trans (y0 a ha)
  have z2 : CO (blk (blk h b 0 (2, 0, 36) n) b 1 (2, 0, 36) (n + 1)) (n + 2) := z1.blk (by omega)
  have y2 : ∀ a, a < n → a_sh (blk (blk h b 0 (2, 0, 36) n) b 1 (2, 0, 36) (n + 1)) a = a_sh h a := fun a ha => (sh_blk z1 (by omega)).trans (y1 a ha)
  refine ⟨?_, z2, y2⟩
  rw [jS71 hb3]
  rw [j71_0 z0 hb_0 hn_0 ((y0 b hb).trans sh)]
  rw [j71_1 z1 hb_1 hn_1 ((y1 b hb).trans sh)]
  rw [f71_20]
  unfold hI6
  rfl
def hI7 (h : aH) (b n : Nat) : aH := (blk h b 0 (2, 0, 400) n)
theorem jS78 {d b : Nat} {h : aH} {post : Option Value → aH → Prop} (b3 : ¬ b = 1003) : R (d + 1) 0 0 78 0 [.ref b] [] h post = R (d + 1) 0 0 78 4 [.ref b] [] h post := by
  simp only [f78_0, f78_1, b3, a_clr, Option.toList_some, Option.toList_none, List.cons_append, List.nil_append, a_cw, List.map_cons, List.map_nil, List.sum_cons, List.sum_nil, Value.category, ne_eq, not_false_eq_true, true_and, and_true, Nat.reduceLeDiff, Nat.reduceAdd, Nat.reduceEqDiff, or_true, true_or, false_or, and_self, a_sh_fset]
theorem j78_0 {d n b : Nat} {h : aH} {post : Option Value → aH → Prop} (c : CO h n) (hb : b < n) (hn : n + 1 < 990) (sh : a_sh h b = (1, 7, 7)) : R (d + 1) 0 0 78 4 [.ref b] [] h post = R (d + 1) 1 400 78 13 [.ref b] [] (blk h b 0 (2, 0, 400) n) post := by
  have b3 : ¬ b = 1003 := by omega
  have g : a_nn h = n := c.2
  have n1 : (n < 1000) = True := eq_true (by omega)
  have n3 : ¬ n = 1003 := by omega
  have bn : ¬ b = n := by omega
  have fr : a_frs [.ref b] [.ref b] h = True := eq_true (frs1 c (fun v hv r e => by simp at hv; subst hv; cases e; omega) (fun v hv r e => by simp at hv; subst hv; cases e; omega))
  have s1 : a_sh (a_make h (2, 0, 400) (fun _ => .null)) b = (1, 7, 7) := by rw [sh_make, g, if_neg bn]; exact sh
  simp only [f78_4, f78_5, f78_8, f78_10, b3, g, n1, n3, fr, s1, a_clr, Option.toList_some, Option.toList_none, List.cons_append, List.nil_append, a_cw, List.map_cons, List.map_nil, List.sum_cons, List.sum_nil, Value.category, ne_eq, not_false_eq_true, true_and, and_true, Nat.reduceLeDiff, Nat.reduceAdd, Nat.reduceEqDiff, or_true, true_or, false_or, and_self, a_sh_fset]
  rfl
set_option maxHeartbeats 4000000 in
theorem iI7 {d n b : Nat} {h : aH} {post : Option Value → aH → Prop} (c : CO h n) (hb : b < n) (hn : n + 1 < 990) (sh : a_sh h b = (1, 7, 7)) : R (d + 1) 0 0 78 0 [.ref b] [] h post = post none (hI7 h b n) ∧ CO (hI7 h b n) (n + 1) ∧ ∀ a, a < n → a_sh (hI7 h b n) a = a_sh h a := by
  have hb3 : ¬ b = 1003 := by omega
  have hb_0 : b < n := by omega
  have hn_0 : n + 1 < 990 := by omega
  have z0 : CO h n := c
  have y0 : ∀ a, a < n → a_sh h a = a_sh h a := fun _ _ => rfl
  have z1 : CO (blk h b 0 (2, 0, 400) n) (n + 1) := z0.blk (by omega)
  have y1 : ∀ a, a < n → a_sh (blk h b 0 (2, 0, 400) n) a = a_sh h a := fun a ha => (sh_blk z0 (by omega)).trans (y0 a ha)
  refine ⟨?_, z1, y1⟩
  rw [jS78 hb3]
  rw [j78_0 z0 hb_0 hn_0 ((y0 b hb).trans sh)]
  rw [f78_13]
  unfold hI7
  rfl
def hI9 (h : aH) (b n : Nat) : aH := (blk (blk (blk (blk (blk (blk (blk (blk (blk (blk h b 0 (2, 0, 60) n) b 1 (2, 0, 60) (n + 1)) b 2 (2, 0, 60) (n + 2)) b 3 (2, 0, 60) (n + 3)) b 4 (2, 0, 60) (n + 4)) b 5 (2, 0, 60) (n + 5)) b 6 (2, 0, 60) (n + 6)) b 7 (3, 0, 60) (n + 7)) b 8 (3, 0, 3) (n + 8)) b 9 (2, 0, 3) (n + 9))
theorem jS103 {d b : Nat} {h : aH} {post : Option Value → aH → Prop} (b3 : ¬ b = 1003) : R (d + 1) 0 0 103 0 [.ref b] [] h post = R (d + 1) 0 0 103 4 [.ref b] [] h post := by
  simp only [f103_0, f103_1, b3, a_clr, Option.toList_some, Option.toList_none, List.cons_append, List.nil_append, a_cw, List.map_cons, List.map_nil, List.sum_cons, List.sum_nil, Value.category, ne_eq, not_false_eq_true, true_and, and_true, Nat.reduceLeDiff, Nat.reduceAdd, Nat.reduceEqDiff, or_true, true_or, false_or, and_self, a_sh_fset]
theorem j103_0 {d n b : Nat} {h : aH} {post : Option Value → aH → Prop} (c : CO h n) (hb : b < n) (hn : n + 1 < 990) (sh : a_sh h b = (1, 9, 12)) : R (d + 1) 0 0 103 4 [.ref b] [] h post = R (d + 1) 1 60 103 12 [.ref b] [] (blk h b 0 (2, 0, 60) n) post := by
  have b3 : ¬ b = 1003 := by omega
  have g : a_nn h = n := c.2
  have n1 : (n < 1000) = True := eq_true (by omega)
  have n3 : ¬ n = 1003 := by omega
  have bn : ¬ b = n := by omega
  have fr : a_frs [.ref b] [.ref b] h = True := eq_true (frs1 c (fun v hv r e => by simp at hv; subst hv; cases e; omega) (fun v hv r e => by simp at hv; subst hv; cases e; omega))
  have s1 : a_sh (a_make h (2, 0, 60) (fun _ => .null)) b = (1, 9, 12) := by rw [sh_make, g, if_neg bn]; exact sh
  simp only [f103_4, f103_5, f103_7, f103_9, b3, g, n1, n3, fr, s1, a_clr, Option.toList_some, Option.toList_none, List.cons_append, List.nil_append, a_cw, List.map_cons, List.map_nil, List.sum_cons, List.sum_nil, Value.category, ne_eq, not_false_eq_true, true_and, and_true, Nat.reduceLeDiff, Nat.reduceAdd, Nat.reduceEqDiff, or_true, true_or, false_or, and_self, a_sh_fset]
  rfl
theorem j103_1 {d n b : Nat} {h : aH} {post : Option Value → aH → Prop} (c : CO h n) (hb : b < n) (hn : n + 1 < 990) (sh : a_sh h b = (1, 9, 12)) : R (d + 1) 1 60 103 12 [.ref b] [] h post = R (d + 1) 2 120 103 20 [.ref b] [] (blk h b 1 (2, 0, 60) n) post := by
  have b3 : ¬ b = 1003 := by omega
  have g : a_nn h = n := c.2
  have n1 : (n < 1000) = True := eq_true (by omega)
  have n3 : ¬ n = 1003 := by omega
  have bn : ¬ b = n := by omega
  have fr : a_frs [.ref b] [.ref b] h = True := eq_true (frs1 c (fun v hv r e => by simp at hv; subst hv; cases e; omega) (fun v hv r e => by simp at hv; subst hv; cases e; omega))
  have s1 : a_sh (a_make h (2, 0, 60) (fun _ => .null)) b = (1, 9, 12) := by rw [sh_make, g, if_neg bn]; exact sh
  simp only [f103_12, f103_13, f103_15, f103_17, b3, g, n1, n3, fr, s1, a_clr, Option.toList_some, Option.toList_none, List.cons_append, List.nil_append, a_cw, List.map_cons, List.map_nil, List.sum_cons, List.sum_nil, Value.category, ne_eq, not_false_eq_true, true_and, and_true, Nat.reduceLeDiff, Nat.reduceAdd, Nat.reduceEqDiff, or_true, true_or, false_or, and_self, a_sh_fset]
  rfl
theorem j103_2 {d n b : Nat} {h : aH} {post : Option Value → aH → Prop} (c : CO h n) (hb : b < n) (hn : n + 1 < 990) (sh : a_sh h b = (1, 9, 12)) : R (d + 1) 2 120 103 20 [.ref b] [] h post = R (d + 1) 3 180 103 28 [.ref b] [] (blk h b 2 (2, 0, 60) n) post := by
  have b3 : ¬ b = 1003 := by omega
  have g : a_nn h = n := c.2
  have n1 : (n < 1000) = True := eq_true (by omega)
  have n3 : ¬ n = 1003 := by omega
  have bn : ¬ b = n := by omega
  have fr : a_frs [.ref b] [.ref b] h = True := eq_true (frs1 c (fun v hv r e => by simp at hv; subst hv; cases e; omega) (fun v hv r e => by simp at hv; subst hv; cases e; omega))
  have s1 : a_sh (a_make h (2, 0, 60) (fun _ => .null)) b = (1, 9, 12) := by rw [sh_make, g, if_neg bn]; exact sh
  simp only [f103_20, f103_21, f103_23, f103_25, b3, g, n1, n3, fr, s1, a_clr, Option.toList_some, Option.toList_none, List.cons_append, List.nil_append, a_cw, List.map_cons, List.map_nil, List.sum_cons, List.sum_nil, Value.category, ne_eq, not_false_eq_true, true_and, and_true, Nat.reduceLeDiff, Nat.reduceAdd, Nat.reduceEqDiff, or_true, true_or, false_or, and_self, a_sh_fset]
  rfl
theorem j103_3 {d n b : Nat} {h : aH} {post : Option Value → aH → Prop} (c : CO h n) (hb : b < n) (hn : n + 1 < 990) (sh : a_sh h b = (1, 9, 12)) : R (d + 1) 3 180 103 28 [.ref b] [] h post = R (d + 1) 4 240 103 36 [.ref b] [] (blk h b 3 (2, 0, 60) n) post := by
  have b3 : ¬ b = 1003 := by omega
  have g : a_nn h = n := c.2
  have n1 : (n < 1000) = True := eq_true (by omega)
  have n3 : ¬ n = 1003 := by omega
  have bn : ¬ b = n := by omega
  have fr : a_frs [.ref b] [.ref b] h = True := eq_true (frs1 c (fun v hv r e => by simp at hv; subst hv; cases e; omega) (fun v hv r e => by simp at hv; subst hv; cases e; omega))
  have s1 : a_sh (a_make h (2, 0, 60) (fun _ => .null)) b = (1, 9, 12) := by rw [sh_make, g, if_neg bn]; exact sh
  simp only [f103_28, f103_29, f103_31, f103_33, b3, g, n1, n3, fr, s1, a_clr, Option.toList_some, Option.toList_none, List.cons_append, List.nil_append, a_cw, List.map_cons, List.map_nil, List.sum_cons, List.sum_nil, Value.category, ne_eq, not_false_eq_true, true_and, and_true, Nat.reduceLeDiff, Nat.reduceAdd, Nat.reduceEqDiff, or_true, true_or, false_or, and_self, a_sh_fset]
  rfl
theorem j103_4 {d n b : Nat} {h : aH} {post : Option Value → aH → Prop} (c : CO h n) (hb : b < n) (hn : n + 1 < 990) (sh : a_sh h b = (1, 9, 12)) : R (d + 1) 4 240 103 36 [.ref b] [] h post = R (d + 1) 5 300 103 44 [.ref b] [] (blk h b 4 (2, 0, 60) n) post := by
  have b3 : ¬ b = 1003 := by omega
  have g : a_nn h = n := c.2
  have n1 : (n < 1000) = True := eq_true (by omega)
  have n3 : ¬ n = 1003 := by omega
  have bn : ¬ b = n := by omega
  have fr : a_frs [.ref b] [.ref b] h = True := eq_true (frs1 c (fun v hv r e => by simp at hv; subst hv; cases e; omega) (fun v hv r e => by simp at hv; subst hv; cases e; omega))
  have s1 : a_sh (a_make h (2, 0, 60) (fun _ => .null)) b = (1, 9, 12) := by rw [sh_make, g, if_neg bn]; exact sh
  simp only [f103_36, f103_37, f103_39, f103_41, b3, g, n1, n3, fr, s1, a_clr, Option.toList_some, Option.toList_none, List.cons_append, List.nil_append, a_cw, List.map_cons, List.map_nil, List.sum_cons, List.sum_nil, Value.category, ne_eq, not_false_eq_true, true_and, and_true, Nat.reduceLeDiff, Nat.reduceAdd, Nat.reduceEqDiff, or_true, true_or, false_or, and_self, a_sh_fset]
  rfl
theorem j103_5 {d n b : Nat} {h : aH} {post : Option Value → aH → Prop} (c : CO h n) (hb : b < n) (hn : n + 1 < 990) (sh : a_sh h b = (1, 9, 12)) : R (d + 1) 5 300 103 44 [.ref b] [] h post = R (d + 1) 6 360 103 52 [.ref b] [] (blk h b 5 (2, 0, 60) n) post := by
  have b3 : ¬ b = 1003 := by omega
  have g : a_nn h = n := c.2
  have n1 : (n < 1000) = True := eq_true (by omega)
  have n3 : ¬ n = 1003 := by omega
  have bn : ¬ b = n := by omega
  have fr : a_frs [.ref b] [.ref b] h = True := eq_true (frs1 c (fun v hv r e => by simp at hv; subst hv; cases e; omega) (fun v hv r e => by simp at hv; subst hv; cases e; omega))
  have s1 : a_sh (a_make h (2, 0, 60) (fun _ => .null)) b = (1, 9, 12) := by rw [sh_make, g, if_neg bn]; exact sh
  simp only [f103_44, f103_45, f103_47, f103_49, b3, g, n1, n3, fr, s1, a_clr, Option.toList_some, Option.toList_none, List.cons_append, List.nil_append, a_cw, List.map_cons, List.map_nil, List.sum_cons, List.sum_nil, Value.category, ne_eq, not_false_eq_true, true_and, and_true, Nat.reduceLeDiff, Nat.reduceAdd, Nat.reduceEqDiff, or_true, true_or, false_or, and_self, a_sh_fset]
  rfl
theorem j103_6 {d n b : Nat} {h : aH} {post : Option Value → aH → Prop} (c : CO h n) (hb : b < n) (hn : n + 1 < 990) (sh : a_sh h b = (1, 9, 12)) : R (d + 1) 6 360 103 52 [.ref b] [] h post = R (d + 1) 7 420 103 60 [.ref b] [] (blk h b 6 (2, 0, 60) n) post := by
  have b3 : ¬ b = 1003 := by omega
  have g : a_nn h = n := c.2
  have n1 : (n < 1000) = True := eq_true (by omega)
  have n3 : ¬ n = 1003 := by omega
  have bn : ¬ b = n := by omega
  have fr : a_frs [.ref b] [.ref b] h = True := eq_true (frs1 c (fun v hv r e => by simp at hv; subst hv; cases e; omega) (fun v hv r e => by simp at hv; subst hv; cases e; omega))
  have s1 : a_sh (a_make h (2, 0, 60) (fun _ => .null)) b = (1, 9, 12) := by rw [sh_make, g, if_neg bn]; exact sh
  simp only [f103_52, f103_53, f103_55, f103_57, b3, g, n1, n3, fr, s1, a_clr, Option.toList_some, Option.toList_none, List.cons_append, List.nil_append, a_cw, List.map_cons, List.map_nil, List.sum_cons, List.sum_nil, Value.category, ne_eq, not_false_eq_true, true_and, and_true, Nat.reduceLeDiff, Nat.reduceAdd, Nat.reduceEqDiff, or_true, true_or, false_or, and_self, a_sh_fset]
  rfl
theorem j103_7 {d n b : Nat} {h : aH} {post : Option Value → aH → Prop} (c : CO h n) (hb : b < n) (hn : n + 1 < 990) (sh : a_sh h b = (1, 9, 12)) : R (d + 1) 7 420 103 60 [.ref b] [] h post = R (d + 1) 8 480 103 68 [.ref b] [] (blk h b 7 (3, 0, 60) n) post := by
  have b3 : ¬ b = 1003 := by omega
  have g : a_nn h = n := c.2
  have n1 : (n < 1000) = True := eq_true (by omega)
  have n3 : ¬ n = 1003 := by omega
  have bn : ¬ b = n := by omega
  have fr : a_frs [.ref b] [.ref b] h = True := eq_true (frs1 c (fun v hv r e => by simp at hv; subst hv; cases e; omega) (fun v hv r e => by simp at hv; subst hv; cases e; omega))
  have s1 : a_sh (a_make h (3, 0, 60) (fun _ => .null)) b = (1, 9, 12) := by rw [sh_make, g, if_neg bn]; exact sh
  simp only [f103_60, f103_61, f103_63, f103_65, b3, g, n1, n3, fr, s1, a_clr, Option.toList_some, Option.toList_none, List.cons_append, List.nil_append, a_cw, List.map_cons, List.map_nil, List.sum_cons, List.sum_nil, Value.category, ne_eq, not_false_eq_true, true_and, and_true, Nat.reduceLeDiff, Nat.reduceAdd, Nat.reduceEqDiff, or_true, true_or, false_or, and_self, a_sh_fset]
  rfl
theorem j103_8 {d n b : Nat} {h : aH} {post : Option Value → aH → Prop} (c : CO h n) (hb : b < n) (hn : n + 1 < 990) (sh : a_sh h b = (1, 9, 12)) : R (d + 1) 8 480 103 68 [.ref b] [] h post = R (d + 1) 9 483 103 75 [.ref b] [] (blk h b 8 (3, 0, 3) n) post := by
  have b3 : ¬ b = 1003 := by omega
  have g : a_nn h = n := c.2
  have n1 : (n < 1000) = True := eq_true (by omega)
  have n3 : ¬ n = 1003 := by omega
  have bn : ¬ b = n := by omega
  have fr : a_frs [.ref b] [.ref b] h = True := eq_true (frs1 c (fun v hv r e => by simp at hv; subst hv; cases e; omega) (fun v hv r e => by simp at hv; subst hv; cases e; omega))
  have s1 : a_sh (a_make h (3, 0, 3) (fun _ => .null)) b = (1, 9, 12) := by rw [sh_make, g, if_neg bn]; exact sh
  simp only [f103_68, f103_69, f103_70, f103_72, b3, g, n1, n3, fr, s1, a_clr, Option.toList_some, Option.toList_none, List.cons_append, List.nil_append, a_cw, List.map_cons, List.map_nil, List.sum_cons, List.sum_nil, Value.category, ne_eq, not_false_eq_true, true_and, and_true, Nat.reduceLeDiff, Nat.reduceAdd, Nat.reduceEqDiff, or_true, true_or, false_or, and_self, a_sh_fset]
  rfl
theorem j103_9 {d n b : Nat} {h : aH} {post : Option Value → aH → Prop} (c : CO h n) (hb : b < n) (hn : n + 1 < 990) (sh : a_sh h b = (1, 9, 12)) : R (d + 1) 9 483 103 75 [.ref b] [] h post = R (d + 1) 10 486 103 82 [.ref b] [] (blk h b 9 (2, 0, 3) n) post := by
  have b3 : ¬ b = 1003 := by omega
  have g : a_nn h = n := c.2
  have n1 : (n < 1000) = True := eq_true (by omega)
  have n3 : ¬ n = 1003 := by omega
  have bn : ¬ b = n := by omega
  have fr : a_frs [.ref b] [.ref b] h = True := eq_true (frs1 c (fun v hv r e => by simp at hv; subst hv; cases e; omega) (fun v hv r e => by simp at hv; subst hv; cases e; omega))
  have s1 : a_sh (a_make h (2, 0, 3) (fun _ => .null)) b = (1, 9, 12) := by rw [sh_make, g, if_neg bn]; exact sh
  simp only [f103_75, f103_76, f103_77, f103_79, b3, g, n1, n3, fr, s1, a_clr, Option.toList_some, Option.toList_none, List.cons_append, List.nil_append, a_cw, List.map_cons, List.map_nil, List.sum_cons, List.sum_nil, Value.category, ne_eq, not_false_eq_true, true_and, and_true, Nat.reduceLeDiff, Nat.reduceAdd, Nat.reduceEqDiff, or_true, true_or, false_or, and_self, a_sh_fset]
  rfl
set_option maxHeartbeats 4000000 in
theorem iI9 {d n b : Nat} {h : aH} {post : Option Value → aH → Prop} (c : CO h n) (hb : b < n) (hn : n + 10 < 990) (sh : a_sh h b = (1, 9, 12)) : R (d + 1) 0 0 103 0 [.ref b] [] h post = post none (hI9 h b n) ∧ CO (hI9 h b n) (n + 10) ∧ ∀ a, a < n → a_sh (hI9 h b n) a = a_sh h a := by
  have hb3 : ¬ b = 1003 := by omega
  have hb_0 : b < n := by omega
  have hn_0 : n + 1 < 990 := by omega
  have hb_1 : b < n + 1 := by omega
  have hn_1 : n + 1 + 1 < 990 := by omega
  have hb_2 : b < n + 2 := by omega
  have hn_2 : n + 2 + 1 < 990 := by omega
  have hb_3 : b < n + 3 := by omega
  have hn_3 : n + 3 + 1 < 990 := by omega
  have hb_4 : b < n + 4 := by omega
  have hn_4 : n + 4 + 1 < 990 := by omega
  have hb_5 : b < n + 5 := by omega
  have hn_5 : n + 5 + 1 < 990 := by omega
  have hb_6 : b < n + 6 := by omega
  have hn_6 : n + 6 + 1 < 990 := by omega
  have hb_7 : b < n + 7 := by omega
  have hn_7 : n + 7 + 1 < 990 := by omega
  have hb_8 : b < n + 8 := by omega
  have hn_8 : n + 8 + 1 < 990 := by omega
  have hb_9 : b < n + 9 := by omega
  have hn_9 : n + 9 + 1 < 990 := by omega
  have z0 : CO h n := c
  have y0 : ∀ a, a < n → a_sh h a = a_sh h a := fun _ _ => rfl
  have z1 : CO (blk h b 0 (2, 0, 60) n) (n + 1) := z0.blk (by omega)
  have y1 : ∀ a, a < n → a_sh (blk h b 0 (2, 0, 60) n) a = a_sh h a := fun a ha => (sh_blk z0 (by omega)).trans (y0 a ha)
  have z2 : CO (blk (blk h b 0 (2, 0, 60) n) b 1 (2, 0, 60) (n + 1)) (n + 2) := z1.blk (by omega)
  have y2 : ∀ a, a < n → a_sh (blk (blk h b 0 (2, 0, 60) n) b 1 (2, 0, 60) (n + 1)) a = a_sh h a := fun a ha => (sh_blk z1 (by omega)).trans (y1 a ha)
  have z3 : CO (blk (blk (blk h b 0 (2, 0, 60) n) b 1 (2, 0, 60) (n + 1)) b 2 (2, 0, 60) (n + 2)) (n + 3) := z2.blk (by omega)
  have y3 : ∀ a, a < n → a_sh (blk (blk (blk h b 0 (2, 0, 60) n) b 1 (2, 0, 60) (n + 1)) b 2 (2, 0, 60) (n + 2)) a = a_sh h a := fun a ha => (sh_blk z2 (by omega)).trans (y2 a ha)
  have z4 : CO (blk (blk (blk (blk h b 0 (2, 0, 60) n) b 1 (2, 0, 60) (n + 1)) b 2 (2, 0, 60) (n + 2)) b 3 (2, 0, 60) (n + 3)) (n + 4) := z3.blk (by omega)
  have y4 : ∀ a, a < n → a_sh (blk (blk (blk (blk h b 0 (2, 0, 60) n) b 1 (2, 0, 60) (n + 1)) b 2 (2, 0, 60) (n + 2)) b 3 (2, 0, 60) (n + 3)) a = a_sh h a := fun a ha => (sh_blk z3 (by omega)).trans (y3 a ha)
  have z5 : CO (blk (blk (blk (blk (blk h b 0 (2, 0, 60) n) b 1 (2, 0, 60) (n + 1)) b 2 (2, 0, 60) (n + 2)) b 3 (2, 0, 60) (n + 3)) b 4 (2, 0, 60) (n + 4)) (n + 5) := z4.blk (by omega)
  have y5 : ∀ a, a < n → a_sh (blk (blk (blk (blk (blk h b 0 (2, 0, 60) n) b 1 (2, 0, 60) (n + 1)) b 2 (2, 0, 60) (n + 2)) b 3 (2, 0, 60) (n + 3)) b 4 (2, 0, 60) (n + 4)) a = a_sh h a := fun a ha => (sh_blk z4 (by omega)).trans (y4 a ha)
  have z6 : CO (blk (blk (blk (blk (blk (blk h b 0 (2, 0, 60) n) b 1 (2, 0, 60) (n + 1)) b 2 (2, 0, 60) (n + 2)) b 3 (2, 0, 60) (n + 3)) b 4 (2, 0, 60) (n + 4)) b 5 (2, 0, 60) (n + 5)) (n + 6) := z5.blk (by omega)
  have y6 : ∀ a, a < n → a_sh (blk (blk (blk (blk (blk (blk h b 0 (2, 0, 60) n) b 1 (2, 0, 60) (n + 1)) b 2 (2, 0, 60) (n + 2)) b 3 (2, 0, 60) (n + 3)) b 4 (2, 0, 60) (n + 4)) b 5 (2, 0, 60) (n + 5)) a = a_sh h a := fun a ha => (sh_blk z5 (by omega)).trans (y5 a ha)
  have z7 : CO (blk (blk (blk (blk (blk (blk (blk h b 0 (2, 0, 60) n) b 1 (2, 0, 60) (n + 1)) b 2 (2, 0, 60) (n + 2)) b 3 (2, 0, 60) (n + 3)) b 4 (2, 0, 60) (n + 4)) b 5 (2, 0, 60) (n + 5)) b 6 (2, 0, 60) (n + 6)) (n + 7) := z6.blk (by omega)
  have y7 : ∀ a, a < n → a_sh (blk (blk (blk (blk (blk (blk (blk h b 0 (2, 0, 60) n) b 1 (2, 0, 60) (n + 1)) b 2 (2, 0, 60) (n + 2)) b 3 (2, 0, 60) (n + 3)) b 4 (2, 0, 60) (n + 4)) b 5 (2, 0, 60) (n + 5)) b 6 (2, 0, 60) (n + 6)) a = a_sh h a := fun a ha => (sh_blk z6 (by omega)).trans (y6 a ha)
  have z8 : CO (blk (blk (blk (blk (blk (blk (blk (blk h b 0 (2, 0, 60) n) b 1 (2, 0, 60) (n + 1)) b 2 (2, 0, 60) (n + 2)) b 3 (2, 0, 60) (n + 3)) b 4 (2, 0, 60) (n + 4)) b 5 (2, 0, 60) (n + 5)) b 6 (2, 0, 60) (n + 6)) b 7 (3, 0, 60) (n + 7)) (n + 8) := z7.blk (by omega)
  have y8 : ∀ a, a < n → a_sh (blk (blk (blk (blk (blk (blk (blk (blk h b 0 (2, 0, 60) n) b 1 (2, 0, 60) (n + 1)) b 2 (2, 0, 60) (n + 2)) b 3 (2, 0, 60) (n + 3)) b 4 (2, 0, 60) (n + 4)) b 5 (2, 0, 60) (n + 5)) b 6 (2, 0, 60) (n + 6)) b 7 (3, 0, 60) (n + 7)) a = a_sh h a := fun a ha => (sh_blk z7 (by omega)).trans (y7 a ha)
  have z9 : CO (blk (blk (blk (blk (blk (blk (blk (blk (blk h b 0 (2, 0, 60) n) b 1 (2, 0, 60) (n + 1)) b 2 (2, 0, 60) (n + 2)) b 3 (2, 0, 60) (n + 3)) b 4 (2, 0, 60) (n + 4)) b 5 (2, 0, 60) (n + 5)) b 6 (2, 0, 60) (n + 6)) b 7 (3, 0, 60) (n + 7)) b 8 (3, 0, 3) (n + 8)) (n + 9) := z8.blk (by omega)
  have y9 : ∀ a, a < n → a_sh (blk (blk (blk (blk (blk (blk (blk (blk (blk h b 0 (2, 0, 60) n) b 1 (2, 0, 60) (n + 1)) b 2 (2, 0, 60) (n + 2)) b 3 (2, 0, 60) (n + 3)) b 4 (2, 0, 60) (n + 4)) b 5 (2, 0, 60) (n + 5)) b 6 (2, 0, 60) (n + 6)) b 7 (3, 0, 60) (n + 7)) b 8 (3, 0, 3) (n + 8)) a = a_sh h a := fun a ha => (sh_blk z8 (by omega)).trans (y8 a ha)
  have z10 : CO (blk (blk (blk (blk (blk (blk (blk (blk (blk (blk h b 0 (2, 0, 60) n) b 1 (2, 0, 60) (n + 1)) b 2 (2, 0, 60) (n + 2)) b 3 (2, 0, 60) (n + 3)) b 4 (2, 0, 60) (n + 4)) b 5 (2, 0, 60) (n + 5)) b 6 (2, 0, 60) (n + 6)) b 7 (3, 0, 60) (n + 7)) b 8 (3, 0, 3) (n + 8)) b 9 (2, 0, 3) (n + 9)) (n + 10) := z9.blk (by omega)
  have y10 : ∀ a, a < n → a_sh (blk (blk (blk (blk (blk (blk (blk (blk (blk (blk h b 0 (2, 0, 60) n) b 1 (2, 0, 60) (n + 1)) b 2 (2, 0, 60) (n + 2)) b 3 (2, 0, 60) (n + 3)) b 4 (2, 0, 60) (n + 4)) b 5 (2, 0, 60) (n + 5)) b 6 (2, 0, 60) (n + 6)) b 7 (3, 0, 60) (n + 7)) b 8 (3, 0, 3) (n + 8)) b 9 (2, 0, 3) (n + 9)) a = a_sh h a := fun a ha => (sh_blk z9 (by omega)).trans (y9 a ha)
  refine ⟨?_, z10, y10⟩
  rw [jS103 hb3]
  rw [j103_0 z0 hb_0 hn_0 ((y0 b hb).trans sh)]
  rw [j103_1 z1 hb_1 hn_1 ((y1 b hb).trans sh)]
  rw [j103_2 z2 hb_2 hn_2 ((y2 b hb).trans sh)]
  rw [j103_3 z3 hb_3 hn_3 ((y3 b hb).trans sh)]
  rw [j103_4 z4 hb_4 hn_4 ((y4 b hb).trans sh)]
  rw [j103_5 z5 hb_5 hn_5 ((y5 b hb).trans sh)]
  rw [j103_6 z6 hb_6 hn_6 ((y6 b hb).trans sh)]
  rw [j103_7 z7 hb_7 hn_7 ((y7 b hb).trans sh)]
  rw [j103_8 z8 hb_8 hn_8 ((y8 b hb).trans sh)]
  rw [j103_9 z9 hb_9 hn_9 ((y9 b hb).trans sh)]
  rw [f103_82]
  unfold hI9
  rfl
def hI10 (h : aH) (b n : Nat) : aH := (blk (blk (blk h b 0 (2, 0, 12) n) b 1 (2, 0, 13) (n + 1)) b 2 (2, 0, 12) (n + 2))
theorem jS123 {d b : Nat} {h : aH} {post : Option Value → aH → Prop} (b3 : ¬ b = 1003) : R (d + 1) 0 0 123 0 [.ref b] [] h post = R (d + 1) 0 0 123 4 [.ref b] [] h post := by
  simp only [f123_0, f123_1, b3, a_clr, Option.toList_some, Option.toList_none, List.cons_append, List.nil_append, a_cw, List.map_cons, List.map_nil, List.sum_cons, List.sum_nil, Value.category, ne_eq, not_false_eq_true, true_and, and_true, Nat.reduceLeDiff, Nat.reduceAdd, Nat.reduceEqDiff, or_true, true_or, false_or, and_self, a_sh_fset]
theorem j123_0 {d n b : Nat} {h : aH} {post : Option Value → aH → Prop} (c : CO h n) (hb : b < n) (hn : n + 1 < 990) (sh : a_sh h b = (1, 10, 4)) : R (d + 1) 0 0 123 4 [.ref b] [] h post = R (d + 1) 1 12 123 12 [.ref b] [] (blk h b 0 (2, 0, 12) n) post := by
  have b3 : ¬ b = 1003 := by omega
  have g : a_nn h = n := c.2
  have n1 : (n < 1000) = True := eq_true (by omega)
  have n3 : ¬ n = 1003 := by omega
  have bn : ¬ b = n := by omega
  have fr : a_frs [.ref b] [.ref b] h = True := eq_true (frs1 c (fun v hv r e => by simp at hv; subst hv; cases e; omega) (fun v hv r e => by simp at hv; subst hv; cases e; omega))
  have s1 : a_sh (a_make h (2, 0, 12) (fun _ => .null)) b = (1, 10, 4) := by rw [sh_make, g, if_neg bn]; exact sh
  simp only [f123_4, f123_5, f123_7, f123_9, b3, g, n1, n3, fr, s1, a_clr, Option.toList_some, Option.toList_none, List.cons_append, List.nil_append, a_cw, List.map_cons, List.map_nil, List.sum_cons, List.sum_nil, Value.category, ne_eq, not_false_eq_true, true_and, and_true, Nat.reduceLeDiff, Nat.reduceAdd, Nat.reduceEqDiff, or_true, true_or, false_or, and_self, a_sh_fset]
  rfl
theorem j123_1 {d n b : Nat} {h : aH} {post : Option Value → aH → Prop} (c : CO h n) (hb : b < n) (hn : n + 1 < 990) (sh : a_sh h b = (1, 10, 4)) : R (d + 1) 1 12 123 12 [.ref b] [] h post = R (d + 1) 2 25 123 20 [.ref b] [] (blk h b 1 (2, 0, 13) n) post := by
  have b3 : ¬ b = 1003 := by omega
  have g : a_nn h = n := c.2
  have n1 : (n < 1000) = True := eq_true (by omega)
  have n3 : ¬ n = 1003 := by omega
  have bn : ¬ b = n := by omega
  have fr : a_frs [.ref b] [.ref b] h = True := eq_true (frs1 c (fun v hv r e => by simp at hv; subst hv; cases e; omega) (fun v hv r e => by simp at hv; subst hv; cases e; omega))
  have s1 : a_sh (a_make h (2, 0, 13) (fun _ => .null)) b = (1, 10, 4) := by rw [sh_make, g, if_neg bn]; exact sh
  simp only [f123_12, f123_13, f123_15, f123_17, b3, g, n1, n3, fr, s1, a_clr, Option.toList_some, Option.toList_none, List.cons_append, List.nil_append, a_cw, List.map_cons, List.map_nil, List.sum_cons, List.sum_nil, Value.category, ne_eq, not_false_eq_true, true_and, and_true, Nat.reduceLeDiff, Nat.reduceAdd, Nat.reduceEqDiff, or_true, true_or, false_or, and_self, a_sh_fset]
  rfl
theorem j123_2 {d n b : Nat} {h : aH} {post : Option Value → aH → Prop} (c : CO h n) (hb : b < n) (hn : n + 1 < 990) (sh : a_sh h b = (1, 10, 4)) : R (d + 1) 2 25 123 20 [.ref b] [] h post = R (d + 1) 3 37 123 28 [.ref b] [] (blk h b 2 (2, 0, 12) n) post := by
  have b3 : ¬ b = 1003 := by omega
  have g : a_nn h = n := c.2
  have n1 : (n < 1000) = True := eq_true (by omega)
  have n3 : ¬ n = 1003 := by omega
  have bn : ¬ b = n := by omega
  have fr : a_frs [.ref b] [.ref b] h = True := eq_true (frs1 c (fun v hv r e => by simp at hv; subst hv; cases e; omega) (fun v hv r e => by simp at hv; subst hv; cases e; omega))
  have s1 : a_sh (a_make h (2, 0, 12) (fun _ => .null)) b = (1, 10, 4) := by rw [sh_make, g, if_neg bn]; exact sh
  simp only [f123_20, f123_21, f123_23, f123_25, b3, g, n1, n3, fr, s1, a_clr, Option.toList_some, Option.toList_none, List.cons_append, List.nil_append, a_cw, List.map_cons, List.map_nil, List.sum_cons, List.sum_nil, Value.category, ne_eq, not_false_eq_true, true_and, and_true, Nat.reduceLeDiff, Nat.reduceAdd, Nat.reduceEqDiff, or_true, true_or, false_or, and_self, a_sh_fset]
  rfl
set_option maxHeartbeats 4000000 in
theorem iI10 {d n b : Nat} {h : aH} {post : Option Value → aH → Prop} (c : CO h n) (hb : b < n) (hn : n + 3 < 990) (sh : a_sh h b = (1, 10, 4)) : R (d + 1) 0 0 123 0 [.ref b] [] h post = post none (hI10 h b n) ∧ CO (hI10 h b n) (n + 3) ∧ ∀ a, a < n → a_sh (hI10 h b n) a = a_sh h a := by
  have hb3 : ¬ b = 1003 := by omega
  have hb_0 : b < n := by omega
  have hn_0 : n + 1 < 990 := by omega
  have hb_1 : b < n + 1 := by omega
  have hn_1 : n + 1 + 1 < 990 := by omega
  have hb_2 : b < n + 2 := by omega
  have hn_2 : n + 2 + 1 < 990 := by omega
  have z0 : CO h n := c
  have y0 : ∀ a, a < n → a_sh h a = a_sh h a := fun _ _ => rfl
  have z1 : CO (blk h b 0 (2, 0, 12) n) (n + 1) := z0.blk (by omega)
  have y1 : ∀ a, a < n → a_sh (blk h b 0 (2, 0, 12) n) a = a_sh h a := fun a ha => (sh_blk z0 (by omega)).trans (y0 a ha)
  have z2 : CO (blk (blk h b 0 (2, 0, 12) n) b 1 (2, 0, 13) (n + 1)) (n + 2) := z1.blk (by omega)
  have y2 : ∀ a, a < n → a_sh (blk (blk h b 0 (2, 0, 12) n) b 1 (2, 0, 13) (n + 1)) a = a_sh h a := fun a ha => (sh_blk z1 (by omega)).trans (y1 a ha)
  have z3 : CO (blk (blk (blk h b 0 (2, 0, 12) n) b 1 (2, 0, 13) (n + 1)) b 2 (2, 0, 12) (n + 2)) (n + 3) := z2.blk (by omega)
  have y3 : ∀ a, a < n → a_sh (blk (blk (blk h b 0 (2, 0, 12) n) b 1 (2, 0, 13) (n + 1)) b 2 (2, 0, 12) (n + 2)) a = a_sh h a := fun a ha => (sh_blk z2 (by omega)).trans (y2 a ha)
  refine ⟨?_, z3, y3⟩
  rw [jS123 hb3]
  rw [j123_0 z0 hb_0 hn_0 ((y0 b hb).trans sh)]
  rw [j123_1 z1 hb_1 hn_1 ((y1 b hb).trans sh)]
  rw [j123_2 z2 hb_2 hn_2 ((y2 b hb).trans sh)]
  rw [f123_28]
  unfold hI10
  rfl
def hI0 (h : aH) (b n : Nat) : aH := (blk (blk (blk (blk (blk (a_fset (hI1 (a_make (a_fset (hI1 (a_make h (1, 1, 1) (a_dv 1)) n (n + 1)) b 0 (.ref n)) (1, 1, 1) (a_dv 1)) (n + 2) (n + 3)) b 1 (.ref (n + 2))) b 2 (2, 0, 6) (n + 4)) b 3 (2, 0, 6) (n + 5)) b 4 (2, 0, 6) (n + 6)) b 5 (2, 0, 64) (n + 7)) b 6 (2, 0, 64) (n + 8))
theorem jS0 {d b : Nat} {h : aH} {post : Option Value → aH → Prop} (b3 : ¬ b = 1003) : R (d + 2) 0 0 0 0 [.ref b] [] h post = R (d + 2) 0 0 0 4 [.ref b] [] h post := by
  simp only [f0_0, f0_1, b3, a_clr, Option.toList_some, Option.toList_none, List.cons_append, List.nil_append, a_cw, List.map_cons, List.map_nil, List.sum_cons, List.sum_nil, Value.category, ne_eq, not_false_eq_true, true_and, and_true, Nat.reduceLeDiff, Nat.reduceAdd, Nat.reduceEqDiff, or_true, true_or, false_or, and_self, a_sh_fset]
theorem j0_0 {d n b : Nat} {h : aH} {post : Option Value → aH → Prop} (c : CO h n) (hb : b < n) (hn : n + 2 < 990) (sh : a_sh h b = (1, 0, 10)) : R (d + 2) 0 0 0 4 [.ref b] [] h post = R (d + 2) 2 50 0 15 [.ref b] [] (a_fset (hI1 (a_make h (1, 1, 1) (a_dv 1)) n (n + 1)) b 0 (.ref n)) post := by
  have b3 : ¬ b = 1003 := by omega
  have g : a_nn h = n := c.2
  have n1 : (n < 1000) = True := eq_true (by omega)
  have n3 : ¬ n = 1003 := by omega
  have bn : ¬ b = n := by omega
  have fr : a_frs [.ref b] [.ref b] h = True := eq_true (frs1 c (fun v hv r e => by simp at hv; subst hv; cases e; omega) (fun v hv r e => by simp at hv; subst hv; cases e; omega))
  have m : CO (a_make h (1, 1, 1) (a_dv 1)) (n + 1) := c.make (by omega) (dv_ref 1 (by decide))
  have w : a_sh (a_make h (1, 1, 1) (a_dv 1)) n = (1, 1, 1) := by rw [sh_make, g, if_pos rfl]
  have v : a_sh (a_make h (1, 1, 1) (a_dv 1)) b = (1, 0, 10) := by rw [sh_make, g, if_neg bn]; exact sh
  have kq := fun d post => (iI1 (d := d) (post := post) m (show n < n + 1 by omega) (by omega) w).1
  have l := iI1 (d := 0) (post := fun _ _ => True) m (show n < n + 1 by omega) (by omega) w
  have p : a_sh (hI1 (a_make h (1, 1, 1) (a_dv 1)) n (n + 1)) b = (1, 0, 10) := (l.2.2 b (by omega)).trans v
  have q : a_frs [.ref b] [.ref n, .ref b] (a_make h (1, 1, 1) (a_dv 1)) = True := eq_true (frs1 m (fun v hv r e => by simp at hv; subst hv; cases e; omega) (fun v hv r e => by simp at hv; rcases hv with hv | hv <;> (subst hv; cases e; omega)))
  simp only [f0_4, f0_5, f0_8, f0_9, f0_12, b3, g, n1, n3, fr, q, kq, p, a_clr, Option.toList_some, Option.toList_none, List.cons_append, List.nil_append, a_cw, List.map_cons, List.map_nil, List.sum_cons, List.sum_nil, Value.category, ne_eq, not_false_eq_true, true_and, and_true, Nat.reduceLeDiff, Nat.reduceAdd, Nat.reduceEqDiff, or_true, true_or, false_or, and_self, a_sh_fset]
theorem j0_1 {d n b : Nat} {h : aH} {post : Option Value → aH → Prop} (c : CO h n) (hb : b < n) (hn : n + 2 < 990) (sh : a_sh h b = (1, 0, 10)) : R (d + 2) 2 50 0 15 [.ref b] [] h post = R (d + 2) 4 100 0 26 [.ref b] [] (a_fset (hI1 (a_make h (1, 1, 1) (a_dv 1)) n (n + 1)) b 1 (.ref n)) post := by
  have b3 : ¬ b = 1003 := by omega
  have g : a_nn h = n := c.2
  have n1 : (n < 1000) = True := eq_true (by omega)
  have n3 : ¬ n = 1003 := by omega
  have bn : ¬ b = n := by omega
  have fr : a_frs [.ref b] [.ref b] h = True := eq_true (frs1 c (fun v hv r e => by simp at hv; subst hv; cases e; omega) (fun v hv r e => by simp at hv; subst hv; cases e; omega))
  have m : CO (a_make h (1, 1, 1) (a_dv 1)) (n + 1) := c.make (by omega) (dv_ref 1 (by decide))
  have w : a_sh (a_make h (1, 1, 1) (a_dv 1)) n = (1, 1, 1) := by rw [sh_make, g, if_pos rfl]
  have v : a_sh (a_make h (1, 1, 1) (a_dv 1)) b = (1, 0, 10) := by rw [sh_make, g, if_neg bn]; exact sh
  have kq := fun d post => (iI1 (d := d) (post := post) m (show n < n + 1 by omega) (by omega) w).1
  have l := iI1 (d := 0) (post := fun _ _ => True) m (show n < n + 1 by omega) (by omega) w
  have p : a_sh (hI1 (a_make h (1, 1, 1) (a_dv 1)) n (n + 1)) b = (1, 0, 10) := (l.2.2 b (by omega)).trans v
  have q : a_frs [.ref b] [.ref n, .ref b] (a_make h (1, 1, 1) (a_dv 1)) = True := eq_true (frs1 m (fun v hv r e => by simp at hv; subst hv; cases e; omega) (fun v hv r e => by simp at hv; rcases hv with hv | hv <;> (subst hv; cases e; omega)))
  simp only [f0_15, f0_16, f0_19, f0_20, f0_23, b3, g, n1, n3, fr, q, kq, p, a_clr, Option.toList_some, Option.toList_none, List.cons_append, List.nil_append, a_cw, List.map_cons, List.map_nil, List.sum_cons, List.sum_nil, Value.category, ne_eq, not_false_eq_true, true_and, and_true, Nat.reduceLeDiff, Nat.reduceAdd, Nat.reduceEqDiff, or_true, true_or, false_or, and_self, a_sh_fset]
theorem j0_2 {d n b : Nat} {h : aH} {post : Option Value → aH → Prop} (c : CO h n) (hb : b < n) (hn : n + 1 < 990) (sh : a_sh h b = (1, 0, 10)) : R (d + 2) 4 100 0 26 [.ref b] [] h post = R (d + 2) 5 106 0 34 [.ref b] [] (blk h b 2 (2, 0, 6) n) post := by
  have b3 : ¬ b = 1003 := by omega
  have g : a_nn h = n := c.2
  have n1 : (n < 1000) = True := eq_true (by omega)
  have n3 : ¬ n = 1003 := by omega
  have bn : ¬ b = n := by omega
  have fr : a_frs [.ref b] [.ref b] h = True := eq_true (frs1 c (fun v hv r e => by simp at hv; subst hv; cases e; omega) (fun v hv r e => by simp at hv; subst hv; cases e; omega))
  have s1 : a_sh (a_make h (2, 0, 6) (fun _ => .null)) b = (1, 0, 10) := by rw [sh_make, g, if_neg bn]; exact sh
  simp only [f0_26, f0_27, f0_29, f0_31, b3, g, n1, n3, fr, s1, a_clr, Option.toList_some, Option.toList_none, List.cons_append, List.nil_append, a_cw, List.map_cons, List.map_nil, List.sum_cons, List.sum_nil, Value.category, ne_eq, not_false_eq_true, true_and, and_true, Nat.reduceLeDiff, Nat.reduceAdd, Nat.reduceEqDiff, or_true, true_or, false_or, and_self, a_sh_fset]
  rfl
theorem j0_3 {d n b : Nat} {h : aH} {post : Option Value → aH → Prop} (c : CO h n) (hb : b < n) (hn : n + 1 < 990) (sh : a_sh h b = (1, 0, 10)) : R (d + 2) 5 106 0 34 [.ref b] [] h post = R (d + 2) 6 112 0 42 [.ref b] [] (blk h b 3 (2, 0, 6) n) post := by
  have b3 : ¬ b = 1003 := by omega
  have g : a_nn h = n := c.2
  have n1 : (n < 1000) = True := eq_true (by omega)
  have n3 : ¬ n = 1003 := by omega
  have bn : ¬ b = n := by omega
  have fr : a_frs [.ref b] [.ref b] h = True := eq_true (frs1 c (fun v hv r e => by simp at hv; subst hv; cases e; omega) (fun v hv r e => by simp at hv; subst hv; cases e; omega))
  have s1 : a_sh (a_make h (2, 0, 6) (fun _ => .null)) b = (1, 0, 10) := by rw [sh_make, g, if_neg bn]; exact sh
  simp only [f0_34, f0_35, f0_37, f0_39, b3, g, n1, n3, fr, s1, a_clr, Option.toList_some, Option.toList_none, List.cons_append, List.nil_append, a_cw, List.map_cons, List.map_nil, List.sum_cons, List.sum_nil, Value.category, ne_eq, not_false_eq_true, true_and, and_true, Nat.reduceLeDiff, Nat.reduceAdd, Nat.reduceEqDiff, or_true, true_or, false_or, and_self, a_sh_fset]
  rfl
theorem j0_4 {d n b : Nat} {h : aH} {post : Option Value → aH → Prop} (c : CO h n) (hb : b < n) (hn : n + 1 < 990) (sh : a_sh h b = (1, 0, 10)) : R (d + 2) 6 112 0 42 [.ref b] [] h post = R (d + 2) 7 118 0 50 [.ref b] [] (blk h b 4 (2, 0, 6) n) post := by
  have b3 : ¬ b = 1003 := by omega
  have g : a_nn h = n := c.2
  have n1 : (n < 1000) = True := eq_true (by omega)
  have n3 : ¬ n = 1003 := by omega
  have bn : ¬ b = n := by omega
  have fr : a_frs [.ref b] [.ref b] h = True := eq_true (frs1 c (fun v hv r e => by simp at hv; subst hv; cases e; omega) (fun v hv r e => by simp at hv; subst hv; cases e; omega))
  have s1 : a_sh (a_make h (2, 0, 6) (fun _ => .null)) b = (1, 0, 10) := by rw [sh_make, g, if_neg bn]; exact sh
  simp only [f0_42, f0_43, f0_45, f0_47, b3, g, n1, n3, fr, s1, a_clr, Option.toList_some, Option.toList_none, List.cons_append, List.nil_append, a_cw, List.map_cons, List.map_nil, List.sum_cons, List.sum_nil, Value.category, ne_eq, not_false_eq_true, true_and, and_true, Nat.reduceLeDiff, Nat.reduceAdd, Nat.reduceEqDiff, or_true, true_or, false_or, and_self, a_sh_fset]
  rfl
theorem j0_5 {d n b : Nat} {h : aH} {post : Option Value → aH → Prop} (c : CO h n) (hb : b < n) (hn : n + 1 < 990) (sh : a_sh h b = (1, 0, 10)) : R (d + 2) 7 118 0 50 [.ref b] [] h post = R (d + 2) 8 182 0 58 [.ref b] [] (blk h b 5 (2, 0, 64) n) post := by
  have b3 : ¬ b = 1003 := by omega
  have g : a_nn h = n := c.2
  have n1 : (n < 1000) = True := eq_true (by omega)
  have n3 : ¬ n = 1003 := by omega
  have bn : ¬ b = n := by omega
  have fr : a_frs [.ref b] [.ref b] h = True := eq_true (frs1 c (fun v hv r e => by simp at hv; subst hv; cases e; omega) (fun v hv r e => by simp at hv; subst hv; cases e; omega))
  have s1 : a_sh (a_make h (2, 0, 64) (fun _ => .null)) b = (1, 0, 10) := by rw [sh_make, g, if_neg bn]; exact sh
  simp only [f0_50, f0_51, f0_53, f0_55, b3, g, n1, n3, fr, s1, a_clr, Option.toList_some, Option.toList_none, List.cons_append, List.nil_append, a_cw, List.map_cons, List.map_nil, List.sum_cons, List.sum_nil, Value.category, ne_eq, not_false_eq_true, true_and, and_true, Nat.reduceLeDiff, Nat.reduceAdd, Nat.reduceEqDiff, or_true, true_or, false_or, and_self, a_sh_fset]
  rfl
theorem j0_6 {d n b : Nat} {h : aH} {post : Option Value → aH → Prop} (c : CO h n) (hb : b < n) (hn : n + 1 < 990) (sh : a_sh h b = (1, 0, 10)) : R (d + 2) 8 182 0 58 [.ref b] [] h post = R (d + 2) 9 246 0 66 [.ref b] [] (blk h b 6 (2, 0, 64) n) post := by
  have b3 : ¬ b = 1003 := by omega
  have g : a_nn h = n := c.2
  have n1 : (n < 1000) = True := eq_true (by omega)
  have n3 : ¬ n = 1003 := by omega
  have bn : ¬ b = n := by omega
  have fr : a_frs [.ref b] [.ref b] h = True := eq_true (frs1 c (fun v hv r e => by simp at hv; subst hv; cases e; omega) (fun v hv r e => by simp at hv; subst hv; cases e; omega))
  have s1 : a_sh (a_make h (2, 0, 64) (fun _ => .null)) b = (1, 0, 10) := by rw [sh_make, g, if_neg bn]; exact sh
  simp only [f0_58, f0_59, f0_61, f0_63, b3, g, n1, n3, fr, s1, a_clr, Option.toList_some, Option.toList_none, List.cons_append, List.nil_append, a_cw, List.map_cons, List.map_nil, List.sum_cons, List.sum_nil, Value.category, ne_eq, not_false_eq_true, true_and, and_true, Nat.reduceLeDiff, Nat.reduceAdd, Nat.reduceEqDiff, or_true, true_or, false_or, and_self, a_sh_fset]
  rfl
set_option maxHeartbeats 4000000 in
theorem iI0 {d n b : Nat} {h : aH} {post : Option Value → aH → Prop} (c : CO h n) (hb : b < n) (hn : n + 9 < 990) (sh : a_sh h b = (1, 0, 10)) : R (d + 2) 0 0 0 0 [.ref b] [] h post = post none (hI0 h b n) ∧ CO (hI0 h b n) (n + 9) ∧ ∀ a, a < n → a_sh (hI0 h b n) a = a_sh h a := by
  have hb3 : ¬ b = 1003 := by omega
  have hb_0 : b < n := by omega
  have hn_0 : n + 2 < 990 := by omega
  have hb_1 : b < n + 2 := by omega
  have hn_1 : n + 2 + 2 < 990 := by omega
  have hb_2 : b < n + 4 := by omega
  have hn_2 : n + 4 + 1 < 990 := by omega
  have hb_3 : b < n + 5 := by omega
  have hn_3 : n + 5 + 1 < 990 := by omega
  have hb_4 : b < n + 6 := by omega
  have hn_4 : n + 6 + 1 < 990 := by omega
  have hb_5 : b < n + 7 := by omega
  have hn_5 : n + 7 + 1 < 990 := by omega
  have hb_6 : b < n + 8 := by omega
  have hn_6 : n + 8 + 1 < 990 := by omega
  have z0 : CO h n := c
  have y0 : ∀ a, a < n → a_sh h a = a_sh h a := fun _ _ => rfl
  have g0 : a_nn h = n := z0.2
  have m0 : CO (a_make h (1, 1, 1) (a_dv 1)) (n + 1) := z0.make (by omega) (dv_ref 1 (by decide))
  have w0 : a_sh (a_make h (1, 1, 1) (a_dv 1)) n = (1, 1, 1) := by rw [sh_make, g0, if_pos rfl]
  have v0 : ∀ a, a < n → a_sh (a_make h (1, 1, 1) (a_dv 1)) a = a_sh h a := fun a ha => (by rw [sh_make, g0, if_neg (by omega)] : a_sh (a_make h (1, 1, 1) (a_dv 1)) a = a_sh h a).trans (y0 a ha)
  have z1 : CO (a_fset (hI1 (a_make h (1, 1, 1) (a_dv 1)) n (n + 1)) b 0 (.ref n)) (n + 2) := (iI1 (d := 0) (post := fun _ _ => True) m0 (show n < n + 1 by omega) (by omega) w0).2.1.fset (by omega)
  have y1 : ∀ a, a < n → a_sh (a_fset (hI1 (a_make h (1, 1, 1) (a_dv 1)) n (n + 1)) b 0 (.ref n)) a = a_sh h a := fun a ha => ((iI1 (d := 0) (post := fun _ _ => True) m0 (show n < n + 1 by omega) (by omega) w0).2.2 a (by omega)).trans (v0 a ha)
  have g1 : a_nn (a_fset (hI1 (a_make h (1, 1, 1) (a_dv 1)) n (n + 1)) b 0 (.ref n)) = (n + 2) := z1.2
  have m1 : CO (a_make (a_fset (hI1 (a_make h (1, 1, 1) (a_dv 1)) n (n + 1)) b 0 (.ref n)) (1, 1, 1) (a_dv 1)) (n + 3) := z1.make (by omega) (dv_ref 1 (by decide))
  have w1 : a_sh (a_make (a_fset (hI1 (a_make h (1, 1, 1) (a_dv 1)) n (n + 1)) b 0 (.ref n)) (1, 1, 1) (a_dv 1)) (n + 2) = (1, 1, 1) := by rw [sh_make, g1, if_pos rfl]
  have v1 : ∀ a, a < n → a_sh (a_make (a_fset (hI1 (a_make h (1, 1, 1) (a_dv 1)) n (n + 1)) b 0 (.ref n)) (1, 1, 1) (a_dv 1)) a = a_sh h a := fun a ha => (by rw [sh_make, g1, if_neg (by omega)] : a_sh (a_make (a_fset (hI1 (a_make h (1, 1, 1) (a_dv 1)) n (n + 1)) b 0 (.ref n)) (1, 1, 1) (a_dv 1)) a = a_sh (a_fset (hI1 (a_make h (1, 1, 1) (a_dv 1)) n (n + 1)) b 0 (.ref n)) a).trans (y1 a ha)
  have z2 : CO (a_fset (hI1 (a_make (a_fset (hI1 (a_make h (1, 1, 1) (a_dv 1)) n (n + 1)) b 0 (.ref n)) (1, 1, 1) (a_dv 1)) (n + 2) (n + 3)) b 1 (.ref (n + 2))) (n + 4) := (iI1 (d := 0) (post := fun _ _ => True) m1 (show (n + 2) < n + 3 by omega) (by omega) w1).2.1.fset (by omega)
  have y2 : ∀ a, a < n → a_sh (a_fset (hI1 (a_make (a_fset (hI1 (a_make h (1, 1, 1) (a_dv 1)) n (n + 1)) b 0 (.ref n)) (1, 1, 1) (a_dv 1)) (n + 2) (n + 3)) b 1 (.ref (n + 2))) a = a_sh h a := fun a ha => ((iI1 (d := 0) (post := fun _ _ => True) m1 (show (n + 2) < n + 3 by omega) (by omega) w1).2.2 a (by omega)).trans (v1 a ha)
  have z3 : CO (blk (a_fset (hI1 (a_make (a_fset (hI1 (a_make h (1, 1, 1) (a_dv 1)) n (n + 1)) b 0 (.ref n)) (1, 1, 1) (a_dv 1)) (n + 2) (n + 3)) b 1 (.ref (n + 2))) b 2 (2, 0, 6) (n + 4)) (n + 5) := z2.blk (by omega)
  have y3 : ∀ a, a < n → a_sh (blk (a_fset (hI1 (a_make (a_fset (hI1 (a_make h (1, 1, 1) (a_dv 1)) n (n + 1)) b 0 (.ref n)) (1, 1, 1) (a_dv 1)) (n + 2) (n + 3)) b 1 (.ref (n + 2))) b 2 (2, 0, 6) (n + 4)) a = a_sh h a := fun a ha => (sh_blk z2 (by omega)).trans (y2 a ha)
  have z4 : CO (blk (blk (a_fset (hI1 (a_make (a_fset (hI1 (a_make h (1, 1, 1) (a_dv 1)) n (n + 1)) b 0 (.ref n)) (1, 1, 1) (a_dv 1)) (n + 2) (n + 3)) b 1 (.ref (n + 2))) b 2 (2, 0, 6) (n + 4)) b 3 (2, 0, 6) (n + 5)) (n + 6) := z3.blk (by omega)
  have y4 : ∀ a, a < n → a_sh (blk (blk (a_fset (hI1 (a_make (a_fset (hI1 (a_make h (1, 1, 1) (a_dv 1)) n (n + 1)) b 0 (.ref n)) (1, 1, 1) (a_dv 1)) (n + 2) (n + 3)) b 1 (.ref (n + 2))) b 2 (2, 0, 6) (n + 4)) b 3 (2, 0, 6) (n + 5)) a = a_sh h a := fun a ha => (sh_blk z3 (by omega)).trans (y3 a ha)
  have z5 : CO (blk (blk (blk (a_fset (hI1 (a_make (a_fset (hI1 (a_make h (1, 1, 1) (a_dv 1)) n (n + 1)) b 0 (.ref n)) (1, 1, 1) (a_dv 1)) (n + 2) (n + 3)) b 1 (.ref (n + 2))) b 2 (2, 0, 6) (n + 4)) b 3 (2, 0, 6) (n + 5)) b 4 (2, 0, 6) (n + 6)) (n + 7) := z4.blk (by omega)
  have y5 : ∀ a, a < n → a_sh (blk (blk (blk (a_fset (hI1 (a_make (a_fset (hI1 (a_make h (1, 1, 1) (a_dv 1)) n (n + 1)) b 0 (.ref n)) (1, 1, 1) (a_dv 1)) (n + 2) (n + 3)) b 1 (.ref (n + 2))) b 2 (2, 0, 6) (n + 4)) b 3 (2, 0, 6) (n + 5)) b 4 (2, 0, 6) (n + 6)) a = a_sh h a := fun a ha => (sh_blk z4 (by omega)).trans (y4 a ha)
  have z6 : CO (blk (blk (blk (blk (a_fset (hI1 (a_make (a_fset (hI1 (a_make h (1, 1, 1) (a_dv 1)) n (n + 1)) b 0 (.ref n)) (1, 1, 1) (a_dv 1)) (n + 2) (n + 3)) b 1 (.ref (n + 2))) b 2 (2, 0, 6) (n + 4)) b 3 (2, 0, 6) (n + 5)) b 4 (2, 0, 6) (n + 6)) b 5 (2, 0, 64) (n + 7)) (n + 8) := z5.blk (by omega)
  have y6 : ∀ a, a < n → a_sh (blk (blk (blk (blk (a_fset (hI1 (a_make (a_fset (hI1 (a_make h (1, 1, 1) (a_dv 1)) n (n + 1)) b 0 (.ref n)) (1, 1, 1) (a_dv 1)) (n + 2) (n + 3)) b 1 (.ref (n + 2))) b 2 (2, 0, 6) (n + 4)) b 3 (2, 0, 6) (n + 5)) b 4 (2, 0, 6) (n + 6)) b 5 (2, 0, 64) (n + 7)) a = a_sh h a := fun a ha => (sh_blk z5 (by omega)).trans (y5 a ha)
  have z7 : CO (blk (blk (blk (blk (blk (a_fset (hI1 (a_make (a_fset (hI1 (a_make h (1, 1, 1) (a_dv 1)) n (n + 1)) b 0 (.ref n)) (1, 1, 1) (a_dv 1)) (n + 2) (n + 3)) b 1 (.ref (n + 2))) b 2 (2, 0, 6) (n + 4)) b 3 (2, 0, 6) (n + 5)) b 4 (2, 0, 6) (n + 6)) b 5 (2, 0, 64) (n + 7)) b 6 (2, 0, 64) (n + 8)) (n + 9) := z6.blk (by omega)
  have y7 : ∀ a, a < n → a_sh (blk (blk (blk (blk (blk (a_fset (hI1 (a_make (a_fset (hI1 (a_make h (1, 1, 1) (a_dv 1)) n (n + 1)) b 0 (.ref n)) (1, 1, 1) (a_dv 1)) (n + 2) (n + 3)) b 1 (.ref (n + 2))) b 2 (2, 0, 6) (n + 4)) b 3 (2, 0, 6) (n + 5)) b 4 (2, 0, 6) (n + 6)) b 5 (2, 0, 64) (n + 7)) b 6 (2, 0, 64) (n + 8)) a = a_sh h a := fun a ha => (sh_blk z6 (by omega)).trans (y6 a ha)
  refine ⟨?_, z7, y7⟩
  rw [jS0 hb3]
  rw [j0_0 z0 hb_0 hn_0 ((y0 b hb).trans sh)]
  rw [j0_1 z1 hb_1 hn_1 ((y1 b hb).trans sh)]
  rw [j0_2 z2 hb_2 hn_2 ((y2 b hb).trans sh)]
  rw [j0_3 z3 hb_3 hn_3 ((y3 b hb).trans sh)]
  rw [j0_4 z4 hb_4 hn_4 ((y4 b hb).trans sh)]
  rw [j0_5 z5 hb_5 hn_5 ((y5 b hb).trans sh)]
  rw [j0_6 z6 hb_6 hn_6 ((y6 b hb).trans sh)]
  rw [f0_66]
  unfold hI0
  rfl
def hI8 (h : aH) (b n : Nat) : aH := (a_fset (a_fset (hI0 (a_make (a_fset (hI0 (a_make h (1, 0, 10) (a_dv 0)) n (n + 1)) b 0 (.ref n)) (1, 0, 10) (a_dv 0)) (n + 10) (n + 11)) b 1 (.ref (n + 10))) b 2 (.int (Int32.ofInt (-1))))
theorem jS94 {d b : Nat} {h : aH} {post : Option Value → aH → Prop} (b3 : ¬ b = 1003) : R (d + 3) 0 0 94 0 [.ref b] [] h post = R (d + 3) 0 0 94 4 [.ref b] [] h post := by
  simp only [f94_0, f94_1, b3, a_clr, Option.toList_some, Option.toList_none, List.cons_append, List.nil_append, a_cw, List.map_cons, List.map_nil, List.sum_cons, List.sum_nil, Value.category, ne_eq, not_false_eq_true, true_and, and_true, Nat.reduceLeDiff, Nat.reduceAdd, Nat.reduceEqDiff, or_true, true_or, false_or, and_self, a_sh_fset]
theorem j94_0 {d n b : Nat} {h : aH} {post : Option Value → aH → Prop} (c : CO h n) (hb : b < n) (hn : n + 10 < 990) (sh : a_sh h b = (1, 8, 6)) : R (d + 3) 0 0 94 4 [.ref b] [] h post = R (d + 3) 10 256 94 15 [.ref b] [] (a_fset (hI0 (a_make h (1, 0, 10) (a_dv 0)) n (n + 1)) b 0 (.ref n)) post := by
  have b3 : ¬ b = 1003 := by omega
  have g : a_nn h = n := c.2
  have n1 : (n < 1000) = True := eq_true (by omega)
  have n3 : ¬ n = 1003 := by omega
  have bn : ¬ b = n := by omega
  have fr : a_frs [.ref b] [.ref b] h = True := eq_true (frs1 c (fun v hv r e => by simp at hv; subst hv; cases e; omega) (fun v hv r e => by simp at hv; subst hv; cases e; omega))
  have m : CO (a_make h (1, 0, 10) (a_dv 0)) (n + 1) := c.make (by omega) (dv_ref 0 (by decide))
  have w : a_sh (a_make h (1, 0, 10) (a_dv 0)) n = (1, 0, 10) := by rw [sh_make, g, if_pos rfl]
  have v : a_sh (a_make h (1, 0, 10) (a_dv 0)) b = (1, 8, 6) := by rw [sh_make, g, if_neg bn]; exact sh
  have kq := fun d post => (iI0 (d := d) (post := post) m (show n < n + 1 by omega) (by omega) w).1
  have l := iI0 (d := 0) (post := fun _ _ => True) m (show n < n + 1 by omega) (by omega) w
  have p : a_sh (hI0 (a_make h (1, 0, 10) (a_dv 0)) n (n + 1)) b = (1, 8, 6) := (l.2.2 b (by omega)).trans v
  have q : a_frs [.ref b] [.ref n, .ref b] (a_make h (1, 0, 10) (a_dv 0)) = True := eq_true (frs1 m (fun v hv r e => by simp at hv; subst hv; cases e; omega) (fun v hv r e => by simp at hv; rcases hv with hv | hv <;> (subst hv; cases e; omega)))
  simp only [f94_4, f94_5, f94_8, f94_9, f94_12, b3, g, n1, n3, fr, q, kq, p, a_clr, Option.toList_some, Option.toList_none, List.cons_append, List.nil_append, a_cw, List.map_cons, List.map_nil, List.sum_cons, List.sum_nil, Value.category, ne_eq, not_false_eq_true, true_and, and_true, Nat.reduceLeDiff, Nat.reduceAdd, Nat.reduceEqDiff, or_true, true_or, false_or, and_self, a_sh_fset]
theorem j94_1 {d n b : Nat} {h : aH} {post : Option Value → aH → Prop} (c : CO h n) (hb : b < n) (hn : n + 10 < 990) (sh : a_sh h b = (1, 8, 6)) : R (d + 3) 10 256 94 15 [.ref b] [] h post = R (d + 3) 20 512 94 26 [.ref b] [] (a_fset (hI0 (a_make h (1, 0, 10) (a_dv 0)) n (n + 1)) b 1 (.ref n)) post := by
  have b3 : ¬ b = 1003 := by omega
  have g : a_nn h = n := c.2
  have n1 : (n < 1000) = True := eq_true (by omega)
  have n3 : ¬ n = 1003 := by omega
  have bn : ¬ b = n := by omega
  have fr : a_frs [.ref b] [.ref b] h = True := eq_true (frs1 c (fun v hv r e => by simp at hv; subst hv; cases e; omega) (fun v hv r e => by simp at hv; subst hv; cases e; omega))
  have m : CO (a_make h (1, 0, 10) (a_dv 0)) (n + 1) := c.make (by omega) (dv_ref 0 (by decide))
  have w : a_sh (a_make h (1, 0, 10) (a_dv 0)) n = (1, 0, 10) := by rw [sh_make, g, if_pos rfl]
  have v : a_sh (a_make h (1, 0, 10) (a_dv 0)) b = (1, 8, 6) := by rw [sh_make, g, if_neg bn]; exact sh
  have kq := fun d post => (iI0 (d := d) (post := post) m (show n < n + 1 by omega) (by omega) w).1
  have l := iI0 (d := 0) (post := fun _ _ => True) m (show n < n + 1 by omega) (by omega) w
  have p : a_sh (hI0 (a_make h (1, 0, 10) (a_dv 0)) n (n + 1)) b = (1, 8, 6) := (l.2.2 b (by omega)).trans v
  have q : a_frs [.ref b] [.ref n, .ref b] (a_make h (1, 0, 10) (a_dv 0)) = True := eq_true (frs1 m (fun v hv r e => by simp at hv; subst hv; cases e; omega) (fun v hv r e => by simp at hv; rcases hv with hv | hv <;> (subst hv; cases e; omega)))
  simp only [f94_15, f94_16, f94_19, f94_20, f94_23, b3, g, n1, n3, fr, q, kq, p, a_clr, Option.toList_some, Option.toList_none, List.cons_append, List.nil_append, a_cw, List.map_cons, List.map_nil, List.sum_cons, List.sum_nil, Value.category, ne_eq, not_false_eq_true, true_and, and_true, Nat.reduceLeDiff, Nat.reduceAdd, Nat.reduceEqDiff, or_true, true_or, false_or, and_self, a_sh_fset]
theorem j94_2 {d n b : Nat} {h : aH} {post : Option Value → aH → Prop} (c : CO h n) (hb : b < n) (hn : n + 0 < 990) (sh : a_sh h b = (1, 8, 6)) : R (d + 3) 20 512 94 26 [.ref b] [] h post = R (d + 3) 20 512 94 31 [.ref b] [] (a_fset h b 2 (.int (Int32.ofInt (-1)))) post := by
  have b3 : ¬ b = 1003 := by omega
  have g : a_nn h = n := c.2
  have n1 : (n < 1000) = True := eq_true (by omega)
  have n3 : ¬ n = 1003 := by omega
  have bn : ¬ b = n := by omega
  have fr : a_frs [.ref b] [.ref b] h = True := eq_true (frs1 c (fun v hv r e => by simp at hv; subst hv; cases e; omega) (fun v hv r e => by simp at hv; subst hv; cases e; omega))
  simp only [f94_26, f94_27, f94_28, b3, sh, a_clr, Option.toList_some, Option.toList_none, List.cons_append, List.nil_append, a_cw, List.map_cons, List.map_nil, List.sum_cons, List.sum_nil, Value.category, ne_eq, not_false_eq_true, true_and, and_true, Nat.reduceLeDiff, Nat.reduceAdd, Nat.reduceEqDiff, or_true, true_or, false_or, and_self, a_sh_fset]
set_option maxHeartbeats 4000000 in
theorem iI8 {d n b : Nat} {h : aH} {post : Option Value → aH → Prop} (c : CO h n) (hb : b < n) (hn : n + 20 < 990) (sh : a_sh h b = (1, 8, 6)) : R (d + 3) 0 0 94 0 [.ref b] [] h post = post none (hI8 h b n) ∧ CO (hI8 h b n) (n + 20) ∧ ∀ a, a < n → a_sh (hI8 h b n) a = a_sh h a := by
  have hb3 : ¬ b = 1003 := by omega
  have hb_0 : b < n := by omega
  have hn_0 : n + 10 < 990 := by omega
  have hb_1 : b < n + 10 := by omega
  have hn_1 : n + 10 + 10 < 990 := by omega
  have hb_2 : b < n + 20 := by omega
  have hn_2 : n + 20 + 0 < 990 := by omega
  have z0 : CO h n := c
  have y0 : ∀ a, a < n → a_sh h a = a_sh h a := fun _ _ => rfl
  have g0 : a_nn h = n := z0.2
  have m0 : CO (a_make h (1, 0, 10) (a_dv 0)) (n + 1) := z0.make (by omega) (dv_ref 0 (by decide))
  have w0 : a_sh (a_make h (1, 0, 10) (a_dv 0)) n = (1, 0, 10) := by rw [sh_make, g0, if_pos rfl]
  have v0 : ∀ a, a < n → a_sh (a_make h (1, 0, 10) (a_dv 0)) a = a_sh h a := fun a ha => (by rw [sh_make, g0, if_neg (by omega)] : a_sh (a_make h (1, 0, 10) (a_dv 0)) a = a_sh h a).trans (y0 a ha)
  have z1 : CO (a_fset (hI0 (a_make h (1, 0, 10) (a_dv 0)) n (n + 1)) b 0 (.ref n)) (n + 10) := (iI0 (d := 0) (post := fun _ _ => True) m0 (show n < n + 1 by omega) (by omega) w0).2.1.fset (by omega)
  have y1 : ∀ a, a < n → a_sh (a_fset (hI0 (a_make h (1, 0, 10) (a_dv 0)) n (n + 1)) b 0 (.ref n)) a = a_sh h a := fun a ha => ((iI0 (d := 0) (post := fun _ _ => True) m0 (show n < n + 1 by omega) (by omega) w0).2.2 a (by omega)).trans (v0 a ha)
  have g1 : a_nn (a_fset (hI0 (a_make h (1, 0, 10) (a_dv 0)) n (n + 1)) b 0 (.ref n)) = (n + 10) := z1.2
  have m1 : CO (a_make (a_fset (hI0 (a_make h (1, 0, 10) (a_dv 0)) n (n + 1)) b 0 (.ref n)) (1, 0, 10) (a_dv 0)) (n + 11) := z1.make (by omega) (dv_ref 0 (by decide))
  have w1 : a_sh (a_make (a_fset (hI0 (a_make h (1, 0, 10) (a_dv 0)) n (n + 1)) b 0 (.ref n)) (1, 0, 10) (a_dv 0)) (n + 10) = (1, 0, 10) := by rw [sh_make, g1, if_pos rfl]
  have v1 : ∀ a, a < n → a_sh (a_make (a_fset (hI0 (a_make h (1, 0, 10) (a_dv 0)) n (n + 1)) b 0 (.ref n)) (1, 0, 10) (a_dv 0)) a = a_sh h a := fun a ha => (by rw [sh_make, g1, if_neg (by omega)] : a_sh (a_make (a_fset (hI0 (a_make h (1, 0, 10) (a_dv 0)) n (n + 1)) b 0 (.ref n)) (1, 0, 10) (a_dv 0)) a = a_sh (a_fset (hI0 (a_make h (1, 0, 10) (a_dv 0)) n (n + 1)) b 0 (.ref n)) a).trans (y1 a ha)
  have z2 : CO (a_fset (hI0 (a_make (a_fset (hI0 (a_make h (1, 0, 10) (a_dv 0)) n (n + 1)) b 0 (.ref n)) (1, 0, 10) (a_dv 0)) (n + 10) (n + 11)) b 1 (.ref (n + 10))) (n + 20) := (iI0 (d := 0) (post := fun _ _ => True) m1 (show (n + 10) < n + 11 by omega) (by omega) w1).2.1.fset (by omega)
  have y2 : ∀ a, a < n → a_sh (a_fset (hI0 (a_make (a_fset (hI0 (a_make h (1, 0, 10) (a_dv 0)) n (n + 1)) b 0 (.ref n)) (1, 0, 10) (a_dv 0)) (n + 10) (n + 11)) b 1 (.ref (n + 10))) a = a_sh h a := fun a ha => ((iI0 (d := 0) (post := fun _ _ => True) m1 (show (n + 10) < n + 11 by omega) (by omega) w1).2.2 a (by omega)).trans (v1 a ha)
  have z3 : CO (a_fset (a_fset (hI0 (a_make (a_fset (hI0 (a_make h (1, 0, 10) (a_dv 0)) n (n + 1)) b 0 (.ref n)) (1, 0, 10) (a_dv 0)) (n + 10) (n + 11)) b 1 (.ref (n + 10))) b 2 (.int (Int32.ofInt (-1)))) (n + 20) := z2.fint
  have y3 : ∀ a, a < n → a_sh (a_fset (a_fset (hI0 (a_make (a_fset (hI0 (a_make h (1, 0, 10) (a_dv 0)) n (n + 1)) b 0 (.ref n)) (1, 0, 10) (a_dv 0)) (n + 10) (n + 11)) b 1 (.ref (n + 10))) b 2 (.int (Int32.ofInt (-1)))) a = a_sh h a := fun a ha => y2 a ha
  refine ⟨?_, z3, y3⟩
  rw [jS94 hb3]
  rw [j94_0 z0 hb_0 hn_0 ((y0 b hb).trans sh)]
  rw [j94_1 z1 hb_1 hn_1 ((y1 b hb).trans sh)]
  rw [j94_2 z2 hb_2 hn_2 ((y2 b hb).trans sh)]
  rw [f94_31]
  unfold hI8
  rfl
def hI12 (h : aH) (b n : Nat) : aH := (a_fset (blk (blk (blk (blk (blk (blk (blk (blk (blk (blk (blk (blk (blk (blk (blk (blk (blk (blk (blk (blk (blk (blk (blk (blk (blk (blk h b 1 (2, 1, 400) n) b 4 (2, 0, 24) (n + 1)) b 5 (2, 0, 24) (n + 2)) b 6 (2, 0, 24) (n + 3)) b 7 (2, 0, 24) (n + 4)) b 8 (2, 0, 24) (n + 5)) b 9 (2, 0, 24) (n + 6)) b 18 (2, 0, 60) (n + 7)) b 19 (2, 0, 60) (n + 8)) b 20 (2, 0, 60) (n + 9)) b 21 (2, 0, 60) (n + 10)) b 22 (2, 0, 60) (n + 11)) b 23 (2, 0, 60) (n + 12)) b 24 (3, 0, 60) (n + 13)) b 25 (3, 0, 3) (n + 14)) b 26 (2, 0, 12) (n + 15)) b 28 (2, 0, 12) (n + 16)) b 29 (2, 0, 6) (n + 17)) b 30 (2, 0, 12) (n + 18)) b 33 (2, 0, 36) (n + 19)) b 35 (2, 0, 8) (n + 20)) b 36 (2, 0, 8) (n + 21)) b 37 (2, 2, 400) (n + 22)) b 39 (2, 0, 12) (n + 23)) b 40 (2, 0, 13) (n + 24)) b 41 (2, 0, 13) (n + 25)) b 3 (.int (Int32.ofInt (0))))
theorem jS173 {d b : Nat} {h : aH} {post : Option Value → aH → Prop} (b3 : ¬ b = 1003) : R (d + 1) 0 0 173 0 [.ref b] [] h post = R (d + 1) 0 0 173 4 [.ref b] [] h post := by
  simp only [f173_0, f173_1, b3, a_clr, Option.toList_some, Option.toList_none, List.cons_append, List.nil_append, a_cw, List.map_cons, List.map_nil, List.sum_cons, List.sum_nil, Value.category, ne_eq, not_false_eq_true, true_and, and_true, Nat.reduceLeDiff, Nat.reduceAdd, Nat.reduceEqDiff, or_true, true_or, false_or, and_self, a_sh_fset]
theorem j173_0 {d n b : Nat} {h : aH} {post : Option Value → aH → Prop} (c : CO h n) (hb : b < n) (hn : n + 1 < 990) (sh : a_sh h b = (1, 12, 42)) : R (d + 1) 0 0 173 4 [.ref b] [] h post = R (d + 1) 1 400 173 13 [.ref b] [] (blk h b 1 (2, 1, 400) n) post := by
  have b3 : ¬ b = 1003 := by omega
  have g : a_nn h = n := c.2
  have n1 : (n < 1000) = True := eq_true (by omega)
  have n3 : ¬ n = 1003 := by omega
  have bn : ¬ b = n := by omega
  have fr : a_frs [.ref b] [.ref b] h = True := eq_true (frs1 c (fun v hv r e => by simp at hv; subst hv; cases e; omega) (fun v hv r e => by simp at hv; subst hv; cases e; omega))
  have s1 : a_sh (a_make h (2, 1, 400) (fun _ => .null)) b = (1, 12, 42) := by rw [sh_make, g, if_neg bn]; exact sh
  simp only [f173_4, f173_5, f173_8, f173_10, b3, g, n1, n3, fr, s1, a_clr, Option.toList_some, Option.toList_none, List.cons_append, List.nil_append, a_cw, List.map_cons, List.map_nil, List.sum_cons, List.sum_nil, Value.category, ne_eq, not_false_eq_true, true_and, and_true, Nat.reduceLeDiff, Nat.reduceAdd, Nat.reduceEqDiff, or_true, true_or, false_or, and_self, a_sh_fset]
  rfl
theorem j173_1 {d n b : Nat} {h : aH} {post : Option Value → aH → Prop} (c : CO h n) (hb : b < n) (hn : n + 1 < 990) (sh : a_sh h b = (1, 12, 42)) : R (d + 1) 1 400 173 13 [.ref b] [] h post = R (d + 1) 2 424 173 21 [.ref b] [] (blk h b 4 (2, 0, 24) n) post := by
  have b3 : ¬ b = 1003 := by omega
  have g : a_nn h = n := c.2
  have n1 : (n < 1000) = True := eq_true (by omega)
  have n3 : ¬ n = 1003 := by omega
  have bn : ¬ b = n := by omega
  have fr : a_frs [.ref b] [.ref b] h = True := eq_true (frs1 c (fun v hv r e => by simp at hv; subst hv; cases e; omega) (fun v hv r e => by simp at hv; subst hv; cases e; omega))
  have s1 : a_sh (a_make h (2, 0, 24) (fun _ => .null)) b = (1, 12, 42) := by rw [sh_make, g, if_neg bn]; exact sh
  simp only [f173_13, f173_14, f173_16, f173_18, b3, g, n1, n3, fr, s1, a_clr, Option.toList_some, Option.toList_none, List.cons_append, List.nil_append, a_cw, List.map_cons, List.map_nil, List.sum_cons, List.sum_nil, Value.category, ne_eq, not_false_eq_true, true_and, and_true, Nat.reduceLeDiff, Nat.reduceAdd, Nat.reduceEqDiff, or_true, true_or, false_or, and_self, a_sh_fset]
  rfl
theorem j173_2 {d n b : Nat} {h : aH} {post : Option Value → aH → Prop} (c : CO h n) (hb : b < n) (hn : n + 1 < 990) (sh : a_sh h b = (1, 12, 42)) : R (d + 1) 2 424 173 21 [.ref b] [] h post = R (d + 1) 3 448 173 29 [.ref b] [] (blk h b 5 (2, 0, 24) n) post := by
  have b3 : ¬ b = 1003 := by omega
  have g : a_nn h = n := c.2
  have n1 : (n < 1000) = True := eq_true (by omega)
  have n3 : ¬ n = 1003 := by omega
  have bn : ¬ b = n := by omega
  have fr : a_frs [.ref b] [.ref b] h = True := eq_true (frs1 c (fun v hv r e => by simp at hv; subst hv; cases e; omega) (fun v hv r e => by simp at hv; subst hv; cases e; omega))
  have s1 : a_sh (a_make h (2, 0, 24) (fun _ => .null)) b = (1, 12, 42) := by rw [sh_make, g, if_neg bn]; exact sh
  simp only [f173_21, f173_22, f173_24, f173_26, b3, g, n1, n3, fr, s1, a_clr, Option.toList_some, Option.toList_none, List.cons_append, List.nil_append, a_cw, List.map_cons, List.map_nil, List.sum_cons, List.sum_nil, Value.category, ne_eq, not_false_eq_true, true_and, and_true, Nat.reduceLeDiff, Nat.reduceAdd, Nat.reduceEqDiff, or_true, true_or, false_or, and_self, a_sh_fset]
  rfl
theorem j173_3 {d n b : Nat} {h : aH} {post : Option Value → aH → Prop} (c : CO h n) (hb : b < n) (hn : n + 1 < 990) (sh : a_sh h b = (1, 12, 42)) : R (d + 1) 3 448 173 29 [.ref b] [] h post = R (d + 1) 4 472 173 37 [.ref b] [] (blk h b 6 (2, 0, 24) n) post := by
  have b3 : ¬ b = 1003 := by omega
  have g : a_nn h = n := c.2
  have n1 : (n < 1000) = True := eq_true (by omega)
  have n3 : ¬ n = 1003 := by omega
  have bn : ¬ b = n := by omega
  have fr : a_frs [.ref b] [.ref b] h = True := eq_true (frs1 c (fun v hv r e => by simp at hv; subst hv; cases e; omega) (fun v hv r e => by simp at hv; subst hv; cases e; omega))
  have s1 : a_sh (a_make h (2, 0, 24) (fun _ => .null)) b = (1, 12, 42) := by rw [sh_make, g, if_neg bn]; exact sh
  simp only [f173_29, f173_30, f173_32, f173_34, b3, g, n1, n3, fr, s1, a_clr, Option.toList_some, Option.toList_none, List.cons_append, List.nil_append, a_cw, List.map_cons, List.map_nil, List.sum_cons, List.sum_nil, Value.category, ne_eq, not_false_eq_true, true_and, and_true, Nat.reduceLeDiff, Nat.reduceAdd, Nat.reduceEqDiff, or_true, true_or, false_or, and_self, a_sh_fset]
  rfl
theorem j173_4 {d n b : Nat} {h : aH} {post : Option Value → aH → Prop} (c : CO h n) (hb : b < n) (hn : n + 1 < 990) (sh : a_sh h b = (1, 12, 42)) : R (d + 1) 4 472 173 37 [.ref b] [] h post = R (d + 1) 5 496 173 45 [.ref b] [] (blk h b 7 (2, 0, 24) n) post := by
  have b3 : ¬ b = 1003 := by omega
  have g : a_nn h = n := c.2
  have n1 : (n < 1000) = True := eq_true (by omega)
  have n3 : ¬ n = 1003 := by omega
  have bn : ¬ b = n := by omega
  have fr : a_frs [.ref b] [.ref b] h = True := eq_true (frs1 c (fun v hv r e => by simp at hv; subst hv; cases e; omega) (fun v hv r e => by simp at hv; subst hv; cases e; omega))
  have s1 : a_sh (a_make h (2, 0, 24) (fun _ => .null)) b = (1, 12, 42) := by rw [sh_make, g, if_neg bn]; exact sh
  simp only [f173_37, f173_38, f173_40, f173_42, b3, g, n1, n3, fr, s1, a_clr, Option.toList_some, Option.toList_none, List.cons_append, List.nil_append, a_cw, List.map_cons, List.map_nil, List.sum_cons, List.sum_nil, Value.category, ne_eq, not_false_eq_true, true_and, and_true, Nat.reduceLeDiff, Nat.reduceAdd, Nat.reduceEqDiff, or_true, true_or, false_or, and_self, a_sh_fset]
  rfl
theorem j173_5 {d n b : Nat} {h : aH} {post : Option Value → aH → Prop} (c : CO h n) (hb : b < n) (hn : n + 1 < 990) (sh : a_sh h b = (1, 12, 42)) : R (d + 1) 5 496 173 45 [.ref b] [] h post = R (d + 1) 6 520 173 53 [.ref b] [] (blk h b 8 (2, 0, 24) n) post := by
  have b3 : ¬ b = 1003 := by omega
  have g : a_nn h = n := c.2
  have n1 : (n < 1000) = True := eq_true (by omega)
  have n3 : ¬ n = 1003 := by omega
  have bn : ¬ b = n := by omega
  have fr : a_frs [.ref b] [.ref b] h = True := eq_true (frs1 c (fun v hv r e => by simp at hv; subst hv; cases e; omega) (fun v hv r e => by simp at hv; subst hv; cases e; omega))
  have s1 : a_sh (a_make h (2, 0, 24) (fun _ => .null)) b = (1, 12, 42) := by rw [sh_make, g, if_neg bn]; exact sh
  simp only [f173_45, f173_46, f173_48, f173_50, b3, g, n1, n3, fr, s1, a_clr, Option.toList_some, Option.toList_none, List.cons_append, List.nil_append, a_cw, List.map_cons, List.map_nil, List.sum_cons, List.sum_nil, Value.category, ne_eq, not_false_eq_true, true_and, and_true, Nat.reduceLeDiff, Nat.reduceAdd, Nat.reduceEqDiff, or_true, true_or, false_or, and_self, a_sh_fset]
  rfl
theorem j173_6 {d n b : Nat} {h : aH} {post : Option Value → aH → Prop} (c : CO h n) (hb : b < n) (hn : n + 1 < 990) (sh : a_sh h b = (1, 12, 42)) : R (d + 1) 6 520 173 53 [.ref b] [] h post = R (d + 1) 7 544 173 61 [.ref b] [] (blk h b 9 (2, 0, 24) n) post := by
  have b3 : ¬ b = 1003 := by omega
  have g : a_nn h = n := c.2
  have n1 : (n < 1000) = True := eq_true (by omega)
  have n3 : ¬ n = 1003 := by omega
  have bn : ¬ b = n := by omega
  have fr : a_frs [.ref b] [.ref b] h = True := eq_true (frs1 c (fun v hv r e => by simp at hv; subst hv; cases e; omega) (fun v hv r e => by simp at hv; subst hv; cases e; omega))
  have s1 : a_sh (a_make h (2, 0, 24) (fun _ => .null)) b = (1, 12, 42) := by rw [sh_make, g, if_neg bn]; exact sh
  simp only [f173_53, f173_54, f173_56, f173_58, b3, g, n1, n3, fr, s1, a_clr, Option.toList_some, Option.toList_none, List.cons_append, List.nil_append, a_cw, List.map_cons, List.map_nil, List.sum_cons, List.sum_nil, Value.category, ne_eq, not_false_eq_true, true_and, and_true, Nat.reduceLeDiff, Nat.reduceAdd, Nat.reduceEqDiff, or_true, true_or, false_or, and_self, a_sh_fset]
  rfl
theorem j173_7 {d n b : Nat} {h : aH} {post : Option Value → aH → Prop} (c : CO h n) (hb : b < n) (hn : n + 1 < 990) (sh : a_sh h b = (1, 12, 42)) : R (d + 1) 7 544 173 61 [.ref b] [] h post = R (d + 1) 8 604 173 69 [.ref b] [] (blk h b 18 (2, 0, 60) n) post := by
  have b3 : ¬ b = 1003 := by omega
  have g : a_nn h = n := c.2
  have n1 : (n < 1000) = True := eq_true (by omega)
  have n3 : ¬ n = 1003 := by omega
  have bn : ¬ b = n := by omega
  have fr : a_frs [.ref b] [.ref b] h = True := eq_true (frs1 c (fun v hv r e => by simp at hv; subst hv; cases e; omega) (fun v hv r e => by simp at hv; subst hv; cases e; omega))
  have s1 : a_sh (a_make h (2, 0, 60) (fun _ => .null)) b = (1, 12, 42) := by rw [sh_make, g, if_neg bn]; exact sh
  simp only [f173_61, f173_62, f173_64, f173_66, b3, g, n1, n3, fr, s1, a_clr, Option.toList_some, Option.toList_none, List.cons_append, List.nil_append, a_cw, List.map_cons, List.map_nil, List.sum_cons, List.sum_nil, Value.category, ne_eq, not_false_eq_true, true_and, and_true, Nat.reduceLeDiff, Nat.reduceAdd, Nat.reduceEqDiff, or_true, true_or, false_or, and_self, a_sh_fset]
  rfl
theorem j173_8 {d n b : Nat} {h : aH} {post : Option Value → aH → Prop} (c : CO h n) (hb : b < n) (hn : n + 1 < 990) (sh : a_sh h b = (1, 12, 42)) : R (d + 1) 8 604 173 69 [.ref b] [] h post = R (d + 1) 9 664 173 77 [.ref b] [] (blk h b 19 (2, 0, 60) n) post := by
  have b3 : ¬ b = 1003 := by omega
  have g : a_nn h = n := c.2
  have n1 : (n < 1000) = True := eq_true (by omega)
  have n3 : ¬ n = 1003 := by omega
  have bn : ¬ b = n := by omega
  have fr : a_frs [.ref b] [.ref b] h = True := eq_true (frs1 c (fun v hv r e => by simp at hv; subst hv; cases e; omega) (fun v hv r e => by simp at hv; subst hv; cases e; omega))
  have s1 : a_sh (a_make h (2, 0, 60) (fun _ => .null)) b = (1, 12, 42) := by rw [sh_make, g, if_neg bn]; exact sh
  simp only [f173_69, f173_70, f173_72, f173_74, b3, g, n1, n3, fr, s1, a_clr, Option.toList_some, Option.toList_none, List.cons_append, List.nil_append, a_cw, List.map_cons, List.map_nil, List.sum_cons, List.sum_nil, Value.category, ne_eq, not_false_eq_true, true_and, and_true, Nat.reduceLeDiff, Nat.reduceAdd, Nat.reduceEqDiff, or_true, true_or, false_or, and_self, a_sh_fset]
  rfl
theorem j173_9 {d n b : Nat} {h : aH} {post : Option Value → aH → Prop} (c : CO h n) (hb : b < n) (hn : n + 1 < 990) (sh : a_sh h b = (1, 12, 42)) : R (d + 1) 9 664 173 77 [.ref b] [] h post = R (d + 1) 10 724 173 85 [.ref b] [] (blk h b 20 (2, 0, 60) n) post := by
  have b3 : ¬ b = 1003 := by omega
  have g : a_nn h = n := c.2
  have n1 : (n < 1000) = True := eq_true (by omega)
  have n3 : ¬ n = 1003 := by omega
  have bn : ¬ b = n := by omega
  have fr : a_frs [.ref b] [.ref b] h = True := eq_true (frs1 c (fun v hv r e => by simp at hv; subst hv; cases e; omega) (fun v hv r e => by simp at hv; subst hv; cases e; omega))
  have s1 : a_sh (a_make h (2, 0, 60) (fun _ => .null)) b = (1, 12, 42) := by rw [sh_make, g, if_neg bn]; exact sh
  simp only [f173_77, f173_78, f173_80, f173_82, b3, g, n1, n3, fr, s1, a_clr, Option.toList_some, Option.toList_none, List.cons_append, List.nil_append, a_cw, List.map_cons, List.map_nil, List.sum_cons, List.sum_nil, Value.category, ne_eq, not_false_eq_true, true_and, and_true, Nat.reduceLeDiff, Nat.reduceAdd, Nat.reduceEqDiff, or_true, true_or, false_or, and_self, a_sh_fset]
  rfl
theorem j173_10 {d n b : Nat} {h : aH} {post : Option Value → aH → Prop} (c : CO h n) (hb : b < n) (hn : n + 1 < 990) (sh : a_sh h b = (1, 12, 42)) : R (d + 1) 10 724 173 85 [.ref b] [] h post = R (d + 1) 11 784 173 93 [.ref b] [] (blk h b 21 (2, 0, 60) n) post := by
  have b3 : ¬ b = 1003 := by omega
  have g : a_nn h = n := c.2
  have n1 : (n < 1000) = True := eq_true (by omega)
  have n3 : ¬ n = 1003 := by omega
  have bn : ¬ b = n := by omega
  have fr : a_frs [.ref b] [.ref b] h = True := eq_true (frs1 c (fun v hv r e => by simp at hv; subst hv; cases e; omega) (fun v hv r e => by simp at hv; subst hv; cases e; omega))
  have s1 : a_sh (a_make h (2, 0, 60) (fun _ => .null)) b = (1, 12, 42) := by rw [sh_make, g, if_neg bn]; exact sh
  simp only [f173_85, f173_86, f173_88, f173_90, b3, g, n1, n3, fr, s1, a_clr, Option.toList_some, Option.toList_none, List.cons_append, List.nil_append, a_cw, List.map_cons, List.map_nil, List.sum_cons, List.sum_nil, Value.category, ne_eq, not_false_eq_true, true_and, and_true, Nat.reduceLeDiff, Nat.reduceAdd, Nat.reduceEqDiff, or_true, true_or, false_or, and_self, a_sh_fset]
  rfl
theorem j173_11 {d n b : Nat} {h : aH} {post : Option Value → aH → Prop} (c : CO h n) (hb : b < n) (hn : n + 1 < 990) (sh : a_sh h b = (1, 12, 42)) : R (d + 1) 11 784 173 93 [.ref b] [] h post = R (d + 1) 12 844 173 101 [.ref b] [] (blk h b 22 (2, 0, 60) n) post := by
  have b3 : ¬ b = 1003 := by omega
  have g : a_nn h = n := c.2
  have n1 : (n < 1000) = True := eq_true (by omega)
  have n3 : ¬ n = 1003 := by omega
  have bn : ¬ b = n := by omega
  have fr : a_frs [.ref b] [.ref b] h = True := eq_true (frs1 c (fun v hv r e => by simp at hv; subst hv; cases e; omega) (fun v hv r e => by simp at hv; subst hv; cases e; omega))
  have s1 : a_sh (a_make h (2, 0, 60) (fun _ => .null)) b = (1, 12, 42) := by rw [sh_make, g, if_neg bn]; exact sh
  simp only [f173_93, f173_94, f173_96, f173_98, b3, g, n1, n3, fr, s1, a_clr, Option.toList_some, Option.toList_none, List.cons_append, List.nil_append, a_cw, List.map_cons, List.map_nil, List.sum_cons, List.sum_nil, Value.category, ne_eq, not_false_eq_true, true_and, and_true, Nat.reduceLeDiff, Nat.reduceAdd, Nat.reduceEqDiff, or_true, true_or, false_or, and_self, a_sh_fset]
  rfl
theorem j173_12 {d n b : Nat} {h : aH} {post : Option Value → aH → Prop} (c : CO h n) (hb : b < n) (hn : n + 1 < 990) (sh : a_sh h b = (1, 12, 42)) : R (d + 1) 12 844 173 101 [.ref b] [] h post = R (d + 1) 13 904 173 109 [.ref b] [] (blk h b 23 (2, 0, 60) n) post := by
  have b3 : ¬ b = 1003 := by omega
  have g : a_nn h = n := c.2
  have n1 : (n < 1000) = True := eq_true (by omega)
  have n3 : ¬ n = 1003 := by omega
  have bn : ¬ b = n := by omega
  have fr : a_frs [.ref b] [.ref b] h = True := eq_true (frs1 c (fun v hv r e => by simp at hv; subst hv; cases e; omega) (fun v hv r e => by simp at hv; subst hv; cases e; omega))
  have s1 : a_sh (a_make h (2, 0, 60) (fun _ => .null)) b = (1, 12, 42) := by rw [sh_make, g, if_neg bn]; exact sh
  simp only [f173_101, f173_102, f173_104, f173_106, b3, g, n1, n3, fr, s1, a_clr, Option.toList_some, Option.toList_none, List.cons_append, List.nil_append, a_cw, List.map_cons, List.map_nil, List.sum_cons, List.sum_nil, Value.category, ne_eq, not_false_eq_true, true_and, and_true, Nat.reduceLeDiff, Nat.reduceAdd, Nat.reduceEqDiff, or_true, true_or, false_or, and_self, a_sh_fset]
  rfl
theorem j173_13 {d n b : Nat} {h : aH} {post : Option Value → aH → Prop} (c : CO h n) (hb : b < n) (hn : n + 1 < 990) (sh : a_sh h b = (1, 12, 42)) : R (d + 1) 13 904 173 109 [.ref b] [] h post = R (d + 1) 14 964 173 117 [.ref b] [] (blk h b 24 (3, 0, 60) n) post := by
  have b3 : ¬ b = 1003 := by omega
  have g : a_nn h = n := c.2
  have n1 : (n < 1000) = True := eq_true (by omega)
  have n3 : ¬ n = 1003 := by omega
  have bn : ¬ b = n := by omega
  have fr : a_frs [.ref b] [.ref b] h = True := eq_true (frs1 c (fun v hv r e => by simp at hv; subst hv; cases e; omega) (fun v hv r e => by simp at hv; subst hv; cases e; omega))
  have s1 : a_sh (a_make h (3, 0, 60) (fun _ => .null)) b = (1, 12, 42) := by rw [sh_make, g, if_neg bn]; exact sh
  simp only [f173_109, f173_110, f173_112, f173_114, b3, g, n1, n3, fr, s1, a_clr, Option.toList_some, Option.toList_none, List.cons_append, List.nil_append, a_cw, List.map_cons, List.map_nil, List.sum_cons, List.sum_nil, Value.category, ne_eq, not_false_eq_true, true_and, and_true, Nat.reduceLeDiff, Nat.reduceAdd, Nat.reduceEqDiff, or_true, true_or, false_or, and_self, a_sh_fset]
  rfl
theorem j173_14 {d n b : Nat} {h : aH} {post : Option Value → aH → Prop} (c : CO h n) (hb : b < n) (hn : n + 1 < 990) (sh : a_sh h b = (1, 12, 42)) : R (d + 1) 14 964 173 117 [.ref b] [] h post = R (d + 1) 15 967 173 124 [.ref b] [] (blk h b 25 (3, 0, 3) n) post := by
  have b3 : ¬ b = 1003 := by omega
  have g : a_nn h = n := c.2
  have n1 : (n < 1000) = True := eq_true (by omega)
  have n3 : ¬ n = 1003 := by omega
  have bn : ¬ b = n := by omega
  have fr : a_frs [.ref b] [.ref b] h = True := eq_true (frs1 c (fun v hv r e => by simp at hv; subst hv; cases e; omega) (fun v hv r e => by simp at hv; subst hv; cases e; omega))
  have s1 : a_sh (a_make h (3, 0, 3) (fun _ => .null)) b = (1, 12, 42) := by rw [sh_make, g, if_neg bn]; exact sh
  simp only [f173_117, f173_118, f173_119, f173_121, b3, g, n1, n3, fr, s1, a_clr, Option.toList_some, Option.toList_none, List.cons_append, List.nil_append, a_cw, List.map_cons, List.map_nil, List.sum_cons, List.sum_nil, Value.category, ne_eq, not_false_eq_true, true_and, and_true, Nat.reduceLeDiff, Nat.reduceAdd, Nat.reduceEqDiff, or_true, true_or, false_or, and_self, a_sh_fset]
  rfl
theorem j173_15 {d n b : Nat} {h : aH} {post : Option Value → aH → Prop} (c : CO h n) (hb : b < n) (hn : n + 1 < 990) (sh : a_sh h b = (1, 12, 42)) : R (d + 1) 15 967 173 124 [.ref b] [] h post = R (d + 1) 16 979 173 132 [.ref b] [] (blk h b 26 (2, 0, 12) n) post := by
  have b3 : ¬ b = 1003 := by omega
  have g : a_nn h = n := c.2
  have n1 : (n < 1000) = True := eq_true (by omega)
  have n3 : ¬ n = 1003 := by omega
  have bn : ¬ b = n := by omega
  have fr : a_frs [.ref b] [.ref b] h = True := eq_true (frs1 c (fun v hv r e => by simp at hv; subst hv; cases e; omega) (fun v hv r e => by simp at hv; subst hv; cases e; omega))
  have s1 : a_sh (a_make h (2, 0, 12) (fun _ => .null)) b = (1, 12, 42) := by rw [sh_make, g, if_neg bn]; exact sh
  simp only [f173_124, f173_125, f173_127, f173_129, b3, g, n1, n3, fr, s1, a_clr, Option.toList_some, Option.toList_none, List.cons_append, List.nil_append, a_cw, List.map_cons, List.map_nil, List.sum_cons, List.sum_nil, Value.category, ne_eq, not_false_eq_true, true_and, and_true, Nat.reduceLeDiff, Nat.reduceAdd, Nat.reduceEqDiff, or_true, true_or, false_or, and_self, a_sh_fset]
  rfl
theorem j173_16 {d n b : Nat} {h : aH} {post : Option Value → aH → Prop} (c : CO h n) (hb : b < n) (hn : n + 1 < 990) (sh : a_sh h b = (1, 12, 42)) : R (d + 1) 16 979 173 132 [.ref b] [] h post = R (d + 1) 17 991 173 140 [.ref b] [] (blk h b 28 (2, 0, 12) n) post := by
  have b3 : ¬ b = 1003 := by omega
  have g : a_nn h = n := c.2
  have n1 : (n < 1000) = True := eq_true (by omega)
  have n3 : ¬ n = 1003 := by omega
  have bn : ¬ b = n := by omega
  have fr : a_frs [.ref b] [.ref b] h = True := eq_true (frs1 c (fun v hv r e => by simp at hv; subst hv; cases e; omega) (fun v hv r e => by simp at hv; subst hv; cases e; omega))
  have s1 : a_sh (a_make h (2, 0, 12) (fun _ => .null)) b = (1, 12, 42) := by rw [sh_make, g, if_neg bn]; exact sh
  simp only [f173_132, f173_133, f173_135, f173_137, b3, g, n1, n3, fr, s1, a_clr, Option.toList_some, Option.toList_none, List.cons_append, List.nil_append, a_cw, List.map_cons, List.map_nil, List.sum_cons, List.sum_nil, Value.category, ne_eq, not_false_eq_true, true_and, and_true, Nat.reduceLeDiff, Nat.reduceAdd, Nat.reduceEqDiff, or_true, true_or, false_or, and_self, a_sh_fset]
  rfl
theorem j173_17 {d n b : Nat} {h : aH} {post : Option Value → aH → Prop} (c : CO h n) (hb : b < n) (hn : n + 1 < 990) (sh : a_sh h b = (1, 12, 42)) : R (d + 1) 17 991 173 140 [.ref b] [] h post = R (d + 1) 18 997 173 148 [.ref b] [] (blk h b 29 (2, 0, 6) n) post := by
  have b3 : ¬ b = 1003 := by omega
  have g : a_nn h = n := c.2
  have n1 : (n < 1000) = True := eq_true (by omega)
  have n3 : ¬ n = 1003 := by omega
  have bn : ¬ b = n := by omega
  have fr : a_frs [.ref b] [.ref b] h = True := eq_true (frs1 c (fun v hv r e => by simp at hv; subst hv; cases e; omega) (fun v hv r e => by simp at hv; subst hv; cases e; omega))
  have s1 : a_sh (a_make h (2, 0, 6) (fun _ => .null)) b = (1, 12, 42) := by rw [sh_make, g, if_neg bn]; exact sh
  simp only [f173_140, f173_141, f173_143, f173_145, b3, g, n1, n3, fr, s1, a_clr, Option.toList_some, Option.toList_none, List.cons_append, List.nil_append, a_cw, List.map_cons, List.map_nil, List.sum_cons, List.sum_nil, Value.category, ne_eq, not_false_eq_true, true_and, and_true, Nat.reduceLeDiff, Nat.reduceAdd, Nat.reduceEqDiff, or_true, true_or, false_or, and_self, a_sh_fset]
  rfl
theorem j173_18 {d n b : Nat} {h : aH} {post : Option Value → aH → Prop} (c : CO h n) (hb : b < n) (hn : n + 1 < 990) (sh : a_sh h b = (1, 12, 42)) : R (d + 1) 18 997 173 148 [.ref b] [] h post = R (d + 1) 19 1009 173 156 [.ref b] [] (blk h b 30 (2, 0, 12) n) post := by
  have b3 : ¬ b = 1003 := by omega
  have g : a_nn h = n := c.2
  have n1 : (n < 1000) = True := eq_true (by omega)
  have n3 : ¬ n = 1003 := by omega
  have bn : ¬ b = n := by omega
  have fr : a_frs [.ref b] [.ref b] h = True := eq_true (frs1 c (fun v hv r e => by simp at hv; subst hv; cases e; omega) (fun v hv r e => by simp at hv; subst hv; cases e; omega))
  have s1 : a_sh (a_make h (2, 0, 12) (fun _ => .null)) b = (1, 12, 42) := by rw [sh_make, g, if_neg bn]; exact sh
  simp only [f173_148, f173_149, f173_151, f173_153, b3, g, n1, n3, fr, s1, a_clr, Option.toList_some, Option.toList_none, List.cons_append, List.nil_append, a_cw, List.map_cons, List.map_nil, List.sum_cons, List.sum_nil, Value.category, ne_eq, not_false_eq_true, true_and, and_true, Nat.reduceLeDiff, Nat.reduceAdd, Nat.reduceEqDiff, or_true, true_or, false_or, and_self, a_sh_fset]
  rfl
theorem j173_19 {d n b : Nat} {h : aH} {post : Option Value → aH → Prop} (c : CO h n) (hb : b < n) (hn : n + 1 < 990) (sh : a_sh h b = (1, 12, 42)) : R (d + 1) 19 1009 173 156 [.ref b] [] h post = R (d + 1) 20 1045 173 164 [.ref b] [] (blk h b 33 (2, 0, 36) n) post := by
  have b3 : ¬ b = 1003 := by omega
  have g : a_nn h = n := c.2
  have n1 : (n < 1000) = True := eq_true (by omega)
  have n3 : ¬ n = 1003 := by omega
  have bn : ¬ b = n := by omega
  have fr : a_frs [.ref b] [.ref b] h = True := eq_true (frs1 c (fun v hv r e => by simp at hv; subst hv; cases e; omega) (fun v hv r e => by simp at hv; subst hv; cases e; omega))
  have s1 : a_sh (a_make h (2, 0, 36) (fun _ => .null)) b = (1, 12, 42) := by rw [sh_make, g, if_neg bn]; exact sh
  simp only [f173_156, f173_157, f173_159, f173_161, b3, g, n1, n3, fr, s1, a_clr, Option.toList_some, Option.toList_none, List.cons_append, List.nil_append, a_cw, List.map_cons, List.map_nil, List.sum_cons, List.sum_nil, Value.category, ne_eq, not_false_eq_true, true_and, and_true, Nat.reduceLeDiff, Nat.reduceAdd, Nat.reduceEqDiff, or_true, true_or, false_or, and_self, a_sh_fset]
  rfl
theorem j173_20 {d n b : Nat} {h : aH} {post : Option Value → aH → Prop} (c : CO h n) (hb : b < n) (hn : n + 1 < 990) (sh : a_sh h b = (1, 12, 42)) : R (d + 1) 20 1045 173 164 [.ref b] [] h post = R (d + 1) 21 1053 173 172 [.ref b] [] (blk h b 35 (2, 0, 8) n) post := by
  have b3 : ¬ b = 1003 := by omega
  have g : a_nn h = n := c.2
  have n1 : (n < 1000) = True := eq_true (by omega)
  have n3 : ¬ n = 1003 := by omega
  have bn : ¬ b = n := by omega
  have fr : a_frs [.ref b] [.ref b] h = True := eq_true (frs1 c (fun v hv r e => by simp at hv; subst hv; cases e; omega) (fun v hv r e => by simp at hv; subst hv; cases e; omega))
  have s1 : a_sh (a_make h (2, 0, 8) (fun _ => .null)) b = (1, 12, 42) := by rw [sh_make, g, if_neg bn]; exact sh
  simp only [f173_164, f173_165, f173_167, f173_169, b3, g, n1, n3, fr, s1, a_clr, Option.toList_some, Option.toList_none, List.cons_append, List.nil_append, a_cw, List.map_cons, List.map_nil, List.sum_cons, List.sum_nil, Value.category, ne_eq, not_false_eq_true, true_and, and_true, Nat.reduceLeDiff, Nat.reduceAdd, Nat.reduceEqDiff, or_true, true_or, false_or, and_self, a_sh_fset]
  rfl
theorem j173_21 {d n b : Nat} {h : aH} {post : Option Value → aH → Prop} (c : CO h n) (hb : b < n) (hn : n + 1 < 990) (sh : a_sh h b = (1, 12, 42)) : R (d + 1) 21 1053 173 172 [.ref b] [] h post = R (d + 1) 22 1061 173 180 [.ref b] [] (blk h b 36 (2, 0, 8) n) post := by
  have b3 : ¬ b = 1003 := by omega
  have g : a_nn h = n := c.2
  have n1 : (n < 1000) = True := eq_true (by omega)
  have n3 : ¬ n = 1003 := by omega
  have bn : ¬ b = n := by omega
  have fr : a_frs [.ref b] [.ref b] h = True := eq_true (frs1 c (fun v hv r e => by simp at hv; subst hv; cases e; omega) (fun v hv r e => by simp at hv; subst hv; cases e; omega))
  have s1 : a_sh (a_make h (2, 0, 8) (fun _ => .null)) b = (1, 12, 42) := by rw [sh_make, g, if_neg bn]; exact sh
  simp only [f173_172, f173_173, f173_175, f173_177, b3, g, n1, n3, fr, s1, a_clr, Option.toList_some, Option.toList_none, List.cons_append, List.nil_append, a_cw, List.map_cons, List.map_nil, List.sum_cons, List.sum_nil, Value.category, ne_eq, not_false_eq_true, true_and, and_true, Nat.reduceLeDiff, Nat.reduceAdd, Nat.reduceEqDiff, or_true, true_or, false_or, and_self, a_sh_fset]
  rfl
theorem j173_22 {d n b : Nat} {h : aH} {post : Option Value → aH → Prop} (c : CO h n) (hb : b < n) (hn : n + 1 < 990) (sh : a_sh h b = (1, 12, 42)) : R (d + 1) 22 1061 173 180 [.ref b] [] h post = R (d + 1) 23 1461 173 189 [.ref b] [] (blk h b 37 (2, 2, 400) n) post := by
  have b3 : ¬ b = 1003 := by omega
  have g : a_nn h = n := c.2
  have n1 : (n < 1000) = True := eq_true (by omega)
  have n3 : ¬ n = 1003 := by omega
  have bn : ¬ b = n := by omega
  have fr : a_frs [.ref b] [.ref b] h = True := eq_true (frs1 c (fun v hv r e => by simp at hv; subst hv; cases e; omega) (fun v hv r e => by simp at hv; subst hv; cases e; omega))
  have s1 : a_sh (a_make h (2, 2, 400) (fun _ => .null)) b = (1, 12, 42) := by rw [sh_make, g, if_neg bn]; exact sh
  simp only [f173_180, f173_181, f173_184, f173_186, b3, g, n1, n3, fr, s1, a_clr, Option.toList_some, Option.toList_none, List.cons_append, List.nil_append, a_cw, List.map_cons, List.map_nil, List.sum_cons, List.sum_nil, Value.category, ne_eq, not_false_eq_true, true_and, and_true, Nat.reduceLeDiff, Nat.reduceAdd, Nat.reduceEqDiff, or_true, true_or, false_or, and_self, a_sh_fset]
  rfl
theorem j173_23 {d n b : Nat} {h : aH} {post : Option Value → aH → Prop} (c : CO h n) (hb : b < n) (hn : n + 1 < 990) (sh : a_sh h b = (1, 12, 42)) : R (d + 1) 23 1461 173 189 [.ref b] [] h post = R (d + 1) 24 1473 173 197 [.ref b] [] (blk h b 39 (2, 0, 12) n) post := by
  have b3 : ¬ b = 1003 := by omega
  have g : a_nn h = n := c.2
  have n1 : (n < 1000) = True := eq_true (by omega)
  have n3 : ¬ n = 1003 := by omega
  have bn : ¬ b = n := by omega
  have fr : a_frs [.ref b] [.ref b] h = True := eq_true (frs1 c (fun v hv r e => by simp at hv; subst hv; cases e; omega) (fun v hv r e => by simp at hv; subst hv; cases e; omega))
  have s1 : a_sh (a_make h (2, 0, 12) (fun _ => .null)) b = (1, 12, 42) := by rw [sh_make, g, if_neg bn]; exact sh
  simp only [f173_189, f173_190, f173_192, f173_194, b3, g, n1, n3, fr, s1, a_clr, Option.toList_some, Option.toList_none, List.cons_append, List.nil_append, a_cw, List.map_cons, List.map_nil, List.sum_cons, List.sum_nil, Value.category, ne_eq, not_false_eq_true, true_and, and_true, Nat.reduceLeDiff, Nat.reduceAdd, Nat.reduceEqDiff, or_true, true_or, false_or, and_self, a_sh_fset]
  rfl
theorem j173_24 {d n b : Nat} {h : aH} {post : Option Value → aH → Prop} (c : CO h n) (hb : b < n) (hn : n + 1 < 990) (sh : a_sh h b = (1, 12, 42)) : R (d + 1) 24 1473 173 197 [.ref b] [] h post = R (d + 1) 25 1486 173 205 [.ref b] [] (blk h b 40 (2, 0, 13) n) post := by
  have b3 : ¬ b = 1003 := by omega
  have g : a_nn h = n := c.2
  have n1 : (n < 1000) = True := eq_true (by omega)
  have n3 : ¬ n = 1003 := by omega
  have bn : ¬ b = n := by omega
  have fr : a_frs [.ref b] [.ref b] h = True := eq_true (frs1 c (fun v hv r e => by simp at hv; subst hv; cases e; omega) (fun v hv r e => by simp at hv; subst hv; cases e; omega))
  have s1 : a_sh (a_make h (2, 0, 13) (fun _ => .null)) b = (1, 12, 42) := by rw [sh_make, g, if_neg bn]; exact sh
  simp only [f173_197, f173_198, f173_200, f173_202, b3, g, n1, n3, fr, s1, a_clr, Option.toList_some, Option.toList_none, List.cons_append, List.nil_append, a_cw, List.map_cons, List.map_nil, List.sum_cons, List.sum_nil, Value.category, ne_eq, not_false_eq_true, true_and, and_true, Nat.reduceLeDiff, Nat.reduceAdd, Nat.reduceEqDiff, or_true, true_or, false_or, and_self, a_sh_fset]
  rfl
theorem j173_25 {d n b : Nat} {h : aH} {post : Option Value → aH → Prop} (c : CO h n) (hb : b < n) (hn : n + 1 < 990) (sh : a_sh h b = (1, 12, 42)) : R (d + 1) 25 1486 173 205 [.ref b] [] h post = R (d + 1) 26 1499 173 213 [.ref b] [] (blk h b 41 (2, 0, 13) n) post := by
  have b3 : ¬ b = 1003 := by omega
  have g : a_nn h = n := c.2
  have n1 : (n < 1000) = True := eq_true (by omega)
  have n3 : ¬ n = 1003 := by omega
  have bn : ¬ b = n := by omega
  have fr : a_frs [.ref b] [.ref b] h = True := eq_true (frs1 c (fun v hv r e => by simp at hv; subst hv; cases e; omega) (fun v hv r e => by simp at hv; subst hv; cases e; omega))
  have s1 : a_sh (a_make h (2, 0, 13) (fun _ => .null)) b = (1, 12, 42) := by rw [sh_make, g, if_neg bn]; exact sh
  simp only [f173_205, f173_206, f173_208, f173_210, b3, g, n1, n3, fr, s1, a_clr, Option.toList_some, Option.toList_none, List.cons_append, List.nil_append, a_cw, List.map_cons, List.map_nil, List.sum_cons, List.sum_nil, Value.category, ne_eq, not_false_eq_true, true_and, and_true, Nat.reduceLeDiff, Nat.reduceAdd, Nat.reduceEqDiff, or_true, true_or, false_or, and_self, a_sh_fset]
  rfl
theorem j173_26 {d n b : Nat} {h : aH} {post : Option Value → aH → Prop} (c : CO h n) (hb : b < n) (hn : n + 0 < 990) (sh : a_sh h b = (1, 12, 42)) : R (d + 1) 26 1499 173 213 [.ref b] [] h post = R (d + 1) 26 1499 173 218 [.ref b] [] (a_fset h b 3 (.int (Int32.ofInt (0)))) post := by
  have b3 : ¬ b = 1003 := by omega
  have g : a_nn h = n := c.2
  have n1 : (n < 1000) = True := eq_true (by omega)
  have n3 : ¬ n = 1003 := by omega
  have bn : ¬ b = n := by omega
  have fr : a_frs [.ref b] [.ref b] h = True := eq_true (frs1 c (fun v hv r e => by simp at hv; subst hv; cases e; omega) (fun v hv r e => by simp at hv; subst hv; cases e; omega))
  simp only [f173_213, f173_214, f173_215, b3, sh, a_clr, Option.toList_some, Option.toList_none, List.cons_append, List.nil_append, a_cw, List.map_cons, List.map_nil, List.sum_cons, List.sum_nil, Value.category, ne_eq, not_false_eq_true, true_and, and_true, Nat.reduceLeDiff, Nat.reduceAdd, Nat.reduceEqDiff, or_true, true_or, false_or, and_self, a_sh_fset]
set_option maxHeartbeats 4000000 in
theorem iI12 {d n b : Nat} {h : aH} {post : Option Value → aH → Prop} (c : CO h n) (hb : b < n) (hn : n + 26 < 990) (sh : a_sh h b = (1, 12, 42)) : R (d + 1) 0 0 173 0 [.ref b] [] h post = post none (hI12 h b n) ∧ CO (hI12 h b n) (n + 26) ∧ ∀ a, a < n → a_sh (hI12 h b n) a = a_sh h a := by
  have hb3 : ¬ b = 1003 := by omega
  have hb_0 : b < n := by omega
  have hn_0 : n + 1 < 990 := by omega
  have hb_1 : b < n + 1 := by omega
  have hn_1 : n + 1 + 1 < 990 := by omega
  have hb_2 : b < n + 2 := by omega
  have hn_2 : n + 2 + 1 < 990 := by omega
  have hb_3 : b < n + 3 := by omega
  have hn_3 : n + 3 + 1 < 990 := by omega
  have hb_4 : b < n + 4 := by omega
  have hn_4 : n + 4 + 1 < 990 := by omega
  have hb_5 : b < n + 5 := by omega
  have hn_5 : n + 5 + 1 < 990 := by omega
  have hb_6 : b < n + 6 := by omega
  have hn_6 : n + 6 + 1 < 990 := by omega
  have hb_7 : b < n + 7 := by omega
  have hn_7 : n + 7 + 1 < 990 := by omega
  have hb_8 : b < n + 8 := by omega
  have hn_8 : n + 8 + 1 < 990 := by omega
  have hb_9 : b < n + 9 := by omega
  have hn_9 : n + 9 + 1 < 990 := by omega
  have hb_10 : b < n + 10 := by omega
  have hn_10 : n + 10 + 1 < 990 := by omega
  have hb_11 : b < n + 11 := by omega
  have hn_11 : n + 11 + 1 < 990 := by omega
  have hb_12 : b < n + 12 := by omega
  have hn_12 : n + 12 + 1 < 990 := by omega
  have hb_13 : b < n + 13 := by omega
  have hn_13 : n + 13 + 1 < 990 := by omega
  have hb_14 : b < n + 14 := by omega
  have hn_14 : n + 14 + 1 < 990 := by omega
  have hb_15 : b < n + 15 := by omega
  have hn_15 : n + 15 + 1 < 990 := by omega
  have hb_16 : b < n + 16 := by omega
  have hn_16 : n + 16 + 1 < 990 := by omega
  have hb_17 : b < n + 17 := by omega
  have hn_17 : n + 17 + 1 < 990 := by omega
  have hb_18 : b < n + 18 := by omega
  have hn_18 : n + 18 + 1 < 990 := by omega
  have hb_19 : b < n + 19 := by omega
  have hn_19 : n + 19 + 1 < 990 := by omega
  have hb_20 : b < n + 20 := by omega
  have hn_20 : n + 20 + 1 < 990 := by omega
  have hb_21 : b < n + 21 := by omega
  have hn_21 : n + 21 + 1 < 990 := by omega
  have hb_22 : b < n + 22 := by omega
  have hn_22 : n + 22 + 1 < 990 := by omega
  have hb_23 : b < n + 23 := by omega
  have hn_23 : n + 23 + 1 < 990 := by omega
  have hb_24 : b < n + 24 := by omega
  have hn_24 : n + 24 + 1 < 990 := by omega
  have hb_25 : b < n + 25 := by omega
  have hn_25 : n + 25 + 1 < 990 := by omega
  have hb_26 : b < n + 26 := by omega
  have hn_26 : n + 26 + 0 < 990 := by omega
  have z0 : CO h n := c
  have y0 : ∀ a, a < n → a_sh h a = a_sh h a := fun _ _ => rfl
  have z1 : CO (blk h b 1 (2, 1, 400) n) (n + 1) := z0.blk (by omega)
  have y1 : ∀ a, a < n → a_sh (blk h b 1 (2, 1, 400) n) a = a_sh h a := fun a ha => (sh_blk z0 (by omega)).trans (y0 a ha)
  have z2 : CO (blk (blk h b 1 (2, 1, 400) n) b 4 (2, 0, 24) (n + 1)) (n + 2) := z1.blk (by omega)
  have y2 : ∀ a, a < n → a_sh (blk (blk h b 1 (2, 1, 400) n) b 4 (2, 0, 24) (n + 1)) a = a_sh h a := fun a ha => (sh_blk z1 (by omega)).trans (y1 a ha)
  have z3 : CO (blk (blk (blk h b 1 (2, 1, 400) n) b 4 (2, 0, 24) (n + 1)) b 5 (2, 0, 24) (n + 2)) (n + 3) := z2.blk (by omega)
  have y3 : ∀ a, a < n → a_sh (blk (blk (blk h b 1 (2, 1, 400) n) b 4 (2, 0, 24) (n + 1)) b 5 (2, 0, 24) (n + 2)) a = a_sh h a := fun a ha => (sh_blk z2 (by omega)).trans (y2 a ha)
  have z4 : CO (blk (blk (blk (blk h b 1 (2, 1, 400) n) b 4 (2, 0, 24) (n + 1)) b 5 (2, 0, 24) (n + 2)) b 6 (2, 0, 24) (n + 3)) (n + 4) := z3.blk (by omega)
  have y4 : ∀ a, a < n → a_sh (blk (blk (blk (blk h b 1 (2, 1, 400) n) b 4 (2, 0, 24) (n + 1)) b 5 (2, 0, 24) (n + 2)) b 6 (2, 0, 24) (n + 3)) a = a_sh h a := fun a ha => (sh_blk z3 (by omega)).trans (y3 a ha)
  have z5 : CO (blk (blk (blk (blk (blk h b 1 (2, 1, 400) n) b 4 (2, 0, 24) (n + 1)) b 5 (2, 0, 24) (n + 2)) b 6 (2, 0, 24) (n + 3)) b 7 (2, 0, 24) (n + 4)) (n + 5) := z4.blk (by omega)
  have y5 : ∀ a, a < n → a_sh (blk (blk (blk (blk (blk h b 1 (2, 1, 400) n) b 4 (2, 0, 24) (n + 1)) b 5 (2, 0, 24) (n + 2)) b 6 (2, 0, 24) (n + 3)) b 7 (2, 0, 24) (n + 4)) a = a_sh h a := fun a ha => (sh_blk z4 (by omega)).trans (y4 a ha)
  have z6 : CO (blk (blk (blk (blk (blk (blk h b 1 (2, 1, 400) n) b 4 (2, 0, 24) (n + 1)) b 5 (2, 0, 24) (n + 2)) b 6 (2, 0, 24) (n + 3)) b 7 (2, 0, 24) (n + 4)) b 8 (2, 0, 24) (n + 5)) (n + 6) := z5.blk (by omega)
  have y6 : ∀ a, a < n → a_sh (blk (blk (blk (blk (blk (blk h b 1 (2, 1, 400) n) b 4 (2, 0, 24) (n + 1)) b 5 (2, 0, 24) (n + 2)) b 6 (2, 0, 24) (n + 3)) b 7 (2, 0, 24) (n + 4)) b 8 (2, 0, 24) (n + 5)) a = a_sh h a := fun a ha => (sh_blk z5 (by omega)).trans (y5 a ha)
  have z7 : CO (blk (blk (blk (blk (blk (blk (blk h b 1 (2, 1, 400) n) b 4 (2, 0, 24) (n + 1)) b 5 (2, 0, 24) (n + 2)) b 6 (2, 0, 24) (n + 3)) b 7 (2, 0, 24) (n + 4)) b 8 (2, 0, 24) (n + 5)) b 9 (2, 0, 24) (n + 6)) (n + 7) := z6.blk (by omega)
  have y7 : ∀ a, a < n → a_sh (blk (blk (blk (blk (blk (blk (blk h b 1 (2, 1, 400) n) b 4 (2, 0, 24) (n + 1)) b 5 (2, 0, 24) (n + 2)) b 6 (2, 0, 24) (n + 3)) b 7 (2, 0, 24) (n + 4)) b 8 (2, 0, 24) (n + 5)) b 9 (2, 0, 24) (n + 6)) a = a_sh h a := fun a ha => (sh_blk z6 (by omega)).trans (y6 a ha)
  have z8 : CO (blk (blk (blk (blk (blk (blk (blk (blk h b 1 (2, 1, 400) n) b 4 (2, 0, 24) (n + 1)) b 5 (2, 0, 24) (n + 2)) b 6 (2, 0, 24) (n + 3)) b 7 (2, 0, 24) (n + 4)) b 8 (2, 0, 24) (n + 5)) b 9 (2, 0, 24) (n + 6)) b 18 (2, 0, 60) (n + 7)) (n + 8) := z7.blk (by omega)
  have y8 : ∀ a, a < n → a_sh (blk (blk (blk (blk (blk (blk (blk (blk h b 1 (2, 1, 400) n) b 4 (2, 0, 24) (n + 1)) b 5 (2, 0, 24) (n + 2)) b 6 (2, 0, 24) (n + 3)) b 7 (2, 0, 24) (n + 4)) b 8 (2, 0, 24) (n + 5)) b 9 (2, 0, 24) (n + 6)) b 18 (2, 0, 60) (n + 7)) a = a_sh h a := fun a ha => (sh_blk z7 (by omega)).trans (y7 a ha)
  have z9 : CO (blk (blk (blk (blk (blk (blk (blk (blk (blk h b 1 (2, 1, 400) n) b 4 (2, 0, 24) (n + 1)) b 5 (2, 0, 24) (n + 2)) b 6 (2, 0, 24) (n + 3)) b 7 (2, 0, 24) (n + 4)) b 8 (2, 0, 24) (n + 5)) b 9 (2, 0, 24) (n + 6)) b 18 (2, 0, 60) (n + 7)) b 19 (2, 0, 60) (n + 8)) (n + 9) := z8.blk (by omega)
  have y9 : ∀ a, a < n → a_sh (blk (blk (blk (blk (blk (blk (blk (blk (blk h b 1 (2, 1, 400) n) b 4 (2, 0, 24) (n + 1)) b 5 (2, 0, 24) (n + 2)) b 6 (2, 0, 24) (n + 3)) b 7 (2, 0, 24) (n + 4)) b 8 (2, 0, 24) (n + 5)) b 9 (2, 0, 24) (n + 6)) b 18 (2, 0, 60) (n + 7)) b 19 (2, 0, 60) (n + 8)) a = a_sh h a := fun a ha => (sh_blk z8 (by omega)).trans (y8 a ha)
  have z10 : CO (blk (blk (blk (blk (blk (blk (blk (blk (blk (blk h b 1 (2, 1, 400) n) b 4 (2, 0, 24) (n + 1)) b 5 (2, 0, 24) (n + 2)) b 6 (2, 0, 24) (n + 3)) b 7 (2, 0, 24) (n + 4)) b 8 (2, 0, 24) (n + 5)) b 9 (2, 0, 24) (n + 6)) b 18 (2, 0, 60) (n + 7)) b 19 (2, 0, 60) (n + 8)) b 20 (2, 0, 60) (n + 9)) (n + 10) := z9.blk (by omega)
  have y10 : ∀ a, a < n → a_sh (blk (blk (blk (blk (blk (blk (blk (blk (blk (blk h b 1 (2, 1, 400) n) b 4 (2, 0, 24) (n + 1)) b 5 (2, 0, 24) (n + 2)) b 6 (2, 0, 24) (n + 3)) b 7 (2, 0, 24) (n + 4)) b 8 (2, 0, 24) (n + 5)) b 9 (2, 0, 24) (n + 6)) b 18 (2, 0, 60) (n + 7)) b 19 (2, 0, 60) (n + 8)) b 20 (2, 0, 60) (n + 9)) a = a_sh h a := fun a ha => (sh_blk z9 (by omega)).trans (y9 a ha)
  have z11 : CO (blk (blk (blk (blk (blk (blk (blk (blk (blk (blk (blk h b 1 (2, 1, 400) n) b 4 (2, 0, 24) (n + 1)) b 5 (2, 0, 24) (n + 2)) b 6 (2, 0, 24) (n + 3)) b 7 (2, 0, 24) (n + 4)) b 8 (2, 0, 24) (n + 5)) b 9 (2, 0, 24) (n + 6)) b 18 (2, 0, 60) (n + 7)) b 19 (2, 0, 60) (n + 8)) b 20 (2, 0, 60) (n + 9)) b 21 (2, 0, 60) (n + 10)) (n + 11) := z10.blk (by omega)
  have y11 : ∀ a, a < n → a_sh (blk (blk (blk (blk (blk (blk (blk (blk (blk (blk (blk h b 1 (2, 1, 400) n) b 4 (2, 0, 24) (n + 1)) b 5 (2, 0, 24) (n + 2)) b 6 (2, 0, 24) (n + 3)) b 7 (2, 0, 24) (n + 4)) b 8 (2, 0, 24) (n + 5)) b 9 (2, 0, 24) (n + 6)) b 18 (2, 0, 60) (n + 7)) b 19 (2, 0, 60) (n + 8)) b 20 (2, 0, 60) (n + 9)) b 21 (2, 0, 60) (n + 10)) a = a_sh h a := fun a ha => (sh_blk z10 (by omega)).trans (y10 a ha)
  have z12 : CO (blk (blk (blk (blk (blk (blk (blk (blk (blk (blk (blk (blk h b 1 (2, 1, 400) n) b 4 (2, 0, 24) (n + 1)) b 5 (2, 0, 24) (n + 2)) b 6 (2, 0, 24) (n + 3)) b 7 (2, 0, 24) (n + 4)) b 8 (2, 0, 24) (n + 5)) b 9 (2, 0, 24) (n + 6)) b 18 (2, 0, 60) (n + 7)) b 19 (2, 0, 60) (n + 8)) b 20 (2, 0, 60) (n + 9)) b 21 (2, 0, 60) (n + 10)) b 22 (2, 0, 60) (n + 11)) (n + 12) := z11.blk (by omega)
  have y12 : ∀ a, a < n → a_sh (blk (blk (blk (blk (blk (blk (blk (blk (blk (blk (blk (blk h b 1 (2, 1, 400) n) b 4 (2, 0, 24) (n + 1)) b 5 (2, 0, 24) (n + 2)) b 6 (2, 0, 24) (n + 3)) b 7 (2, 0, 24) (n + 4)) b 8 (2, 0, 24) (n + 5)) b 9 (2, 0, 24) (n + 6)) b 18 (2, 0, 60) (n + 7)) b 19 (2, 0, 60) (n + 8)) b 20 (2, 0, 60) (n + 9)) b 21 (2, 0, 60) (n + 10)) b 22 (2, 0, 60) (n + 11)) a = a_sh h a := fun a ha => (sh_blk z11 (by omega)).trans (y11 a ha)
  have z13 : CO (blk (blk (blk (blk (blk (blk (blk (blk (blk (blk (blk (blk (blk h b 1 (2, 1, 400) n) b 4 (2, 0, 24) (n + 1)) b 5 (2, 0, 24) (n + 2)) b 6 (2, 0, 24) (n + 3)) b 7 (2, 0, 24) (n + 4)) b 8 (2, 0, 24) (n + 5)) b 9 (2, 0, 24) (n + 6)) b 18 (2, 0, 60) (n + 7)) b 19 (2, 0, 60) (n + 8)) b 20 (2, 0, 60) (n + 9)) b 21 (2, 0, 60) (n + 10)) b 22 (2, 0, 60) (n + 11)) b 23 (2, 0, 60) (n + 12)) (n + 13) := z12.blk (by omega)
  have y13 : ∀ a, a < n → a_sh (blk (blk (blk (blk (blk (blk (blk (blk (blk (blk (blk (blk (blk h b 1 (2, 1, 400) n) b 4 (2, 0, 24) (n + 1)) b 5 (2, 0, 24) (n + 2)) b 6 (2, 0, 24) (n + 3)) b 7 (2, 0, 24) (n + 4)) b 8 (2, 0, 24) (n + 5)) b 9 (2, 0, 24) (n + 6)) b 18 (2, 0, 60) (n + 7)) b 19 (2, 0, 60) (n + 8)) b 20 (2, 0, 60) (n + 9)) b 21 (2, 0, 60) (n + 10)) b 22 (2, 0, 60) (n + 11)) b 23 (2, 0, 60) (n + 12)) a = a_sh h a := fun a ha => (sh_blk z12 (by omega)).trans (y12 a ha)
  have z14 : CO (blk (blk (blk (blk (blk (blk (blk (blk (blk (blk (blk (blk (blk (blk h b 1 (2, 1, 400) n) b 4 (2, 0, 24) (n + 1)) b 5 (2, 0, 24) (n + 2)) b 6 (2, 0, 24) (n + 3)) b 7 (2, 0, 24) (n + 4)) b 8 (2, 0, 24) (n + 5)) b 9 (2, 0, 24) (n + 6)) b 18 (2, 0, 60) (n + 7)) b 19 (2, 0, 60) (n + 8)) b 20 (2, 0, 60) (n + 9)) b 21 (2, 0, 60) (n + 10)) b 22 (2, 0, 60) (n + 11)) b 23 (2, 0, 60) (n + 12)) b 24 (3, 0, 60) (n + 13)) (n + 14) := z13.blk (by omega)
  have y14 : ∀ a, a < n → a_sh (blk (blk (blk (blk (blk (blk (blk (blk (blk (blk (blk (blk (blk (blk h b 1 (2, 1, 400) n) b 4 (2, 0, 24) (n + 1)) b 5 (2, 0, 24) (n + 2)) b 6 (2, 0, 24) (n + 3)) b 7 (2, 0, 24) (n + 4)) b 8 (2, 0, 24) (n + 5)) b 9 (2, 0, 24) (n + 6)) b 18 (2, 0, 60) (n + 7)) b 19 (2, 0, 60) (n + 8)) b 20 (2, 0, 60) (n + 9)) b 21 (2, 0, 60) (n + 10)) b 22 (2, 0, 60) (n + 11)) b 23 (2, 0, 60) (n + 12)) b 24 (3, 0, 60) (n + 13)) a = a_sh h a := fun a ha => (sh_blk z13 (by omega)).trans (y13 a ha)
  have z15 : CO (blk (blk (blk (blk (blk (blk (blk (blk (blk (blk (blk (blk (blk (blk (blk h b 1 (2, 1, 400) n) b 4 (2, 0, 24) (n + 1)) b 5 (2, 0, 24) (n + 2)) b 6 (2, 0, 24) (n + 3)) b 7 (2, 0, 24) (n + 4)) b 8 (2, 0, 24) (n + 5)) b 9 (2, 0, 24) (n + 6)) b 18 (2, 0, 60) (n + 7)) b 19 (2, 0, 60) (n + 8)) b 20 (2, 0, 60) (n + 9)) b 21 (2, 0, 60) (n + 10)) b 22 (2, 0, 60) (n + 11)) b 23 (2, 0, 60) (n + 12)) b 24 (3, 0, 60) (n + 13)) b 25 (3, 0, 3) (n + 14)) (n + 15) := z14.blk (by omega)
  have y15 : ∀ a, a < n → a_sh (blk (blk (blk (blk (blk (blk (blk (blk (blk (blk (blk (blk (blk (blk (blk h b 1 (2, 1, 400) n) b 4 (2, 0, 24) (n + 1)) b 5 (2, 0, 24) (n + 2)) b 6 (2, 0, 24) (n + 3)) b 7 (2, 0, 24) (n + 4)) b 8 (2, 0, 24) (n + 5)) b 9 (2, 0, 24) (n + 6)) b 18 (2, 0, 60) (n + 7)) b 19 (2, 0, 60) (n + 8)) b 20 (2, 0, 60) (n + 9)) b 21 (2, 0, 60) (n + 10)) b 22 (2, 0, 60) (n + 11)) b 23 (2, 0, 60) (n + 12)) b 24 (3, 0, 60) (n + 13)) b 25 (3, 0, 3) (n + 14)) a = a_sh h a := fun a ha => (sh_blk z14 (by omega)).trans (y14 a ha)
  have z16 : CO (blk (blk (blk (blk (blk (blk (blk (blk (blk (blk (blk (blk (blk (blk (blk (blk h b 1 (2, 1, 400) n) b 4 (2, 0, 24) (n + 1)) b 5 (2, 0, 24) (n + 2)) b 6 (2, 0, 24) (n + 3)) b 7 (2, 0, 24) (n + 4)) b 8 (2, 0, 24) (n + 5)) b 9 (2, 0, 24) (n + 6)) b 18 (2, 0, 60) (n + 7)) b 19 (2, 0, 60) (n + 8)) b 20 (2, 0, 60) (n + 9)) b 21 (2, 0, 60) (n + 10)) b 22 (2, 0, 60) (n + 11)) b 23 (2, 0, 60) (n + 12)) b 24 (3, 0, 60) (n + 13)) b 25 (3, 0, 3) (n + 14)) b 26 (2, 0, 12) (n + 15)) (n + 16) := z15.blk (by omega)
  have y16 : ∀ a, a < n → a_sh (blk (blk (blk (blk (blk (blk (blk (blk (blk (blk (blk (blk (blk (blk (blk (blk h b 1 (2, 1, 400) n) b 4 (2, 0, 24) (n + 1)) b 5 (2, 0, 24) (n + 2)) b 6 (2, 0, 24) (n + 3)) b 7 (2, 0, 24) (n + 4)) b 8 (2, 0, 24) (n + 5)) b 9 (2, 0, 24) (n + 6)) b 18 (2, 0, 60) (n + 7)) b 19 (2, 0, 60) (n + 8)) b 20 (2, 0, 60) (n + 9)) b 21 (2, 0, 60) (n + 10)) b 22 (2, 0, 60) (n + 11)) b 23 (2, 0, 60) (n + 12)) b 24 (3, 0, 60) (n + 13)) b 25 (3, 0, 3) (n + 14)) b 26 (2, 0, 12) (n + 15)) a = a_sh h a := fun a ha => (sh_blk z15 (by omega)).trans (y15 a ha)
  have z17 : CO (blk (blk (blk (blk (blk (blk (blk (blk (blk (blk (blk (blk (blk (blk (blk (blk (blk h b 1 (2, 1, 400) n) b 4 (2, 0, 24) (n + 1)) b 5 (2, 0, 24) (n + 2)) b 6 (2, 0, 24) (n + 3)) b 7 (2, 0, 24) (n + 4)) b 8 (2, 0, 24) (n + 5)) b 9 (2, 0, 24) (n + 6)) b 18 (2, 0, 60) (n + 7)) b 19 (2, 0, 60) (n + 8)) b 20 (2, 0, 60) (n + 9)) b 21 (2, 0, 60) (n + 10)) b 22 (2, 0, 60) (n + 11)) b 23 (2, 0, 60) (n + 12)) b 24 (3, 0, 60) (n + 13)) b 25 (3, 0, 3) (n + 14)) b 26 (2, 0, 12) (n + 15)) b 28 (2, 0, 12) (n + 16)) (n + 17) := z16.blk (by omega)
  have y17 : ∀ a, a < n → a_sh (blk (blk (blk (blk (blk (blk (blk (blk (blk (blk (blk (blk (blk (blk (blk (blk (blk h b 1 (2, 1, 400) n) b 4 (2, 0, 24) (n + 1)) b 5 (2, 0, 24) (n + 2)) b 6 (2, 0, 24) (n + 3)) b 7 (2, 0, 24) (n + 4)) b 8 (2, 0, 24) (n + 5)) b 9 (2, 0, 24) (n + 6)) b 18 (2, 0, 60) (n + 7)) b 19 (2, 0, 60) (n + 8)) b 20 (2, 0, 60) (n + 9)) b 21 (2, 0, 60) (n + 10)) b 22 (2, 0, 60) (n + 11)) b 23 (2, 0, 60) (n + 12)) b 24 (3, 0, 60) (n + 13)) b 25 (3, 0, 3) (n + 14)) b 26 (2, 0, 12) (n + 15)) b 28 (2, 0, 12) (n + 16)) a = a_sh h a := fun a ha => (sh_blk z16 (by omega)).trans (y16 a ha)
  have z18 : CO (blk (blk (blk (blk (blk (blk (blk (blk (blk (blk (blk (blk (blk (blk (blk (blk (blk (blk h b 1 (2, 1, 400) n) b 4 (2, 0, 24) (n + 1)) b 5 (2, 0, 24) (n + 2)) b 6 (2, 0, 24) (n + 3)) b 7 (2, 0, 24) (n + 4)) b 8 (2, 0, 24) (n + 5)) b 9 (2, 0, 24) (n + 6)) b 18 (2, 0, 60) (n + 7)) b 19 (2, 0, 60) (n + 8)) b 20 (2, 0, 60) (n + 9)) b 21 (2, 0, 60) (n + 10)) b 22 (2, 0, 60) (n + 11)) b 23 (2, 0, 60) (n + 12)) b 24 (3, 0, 60) (n + 13)) b 25 (3, 0, 3) (n + 14)) b 26 (2, 0, 12) (n + 15)) b 28 (2, 0, 12) (n + 16)) b 29 (2, 0, 6) (n + 17)) (n + 18) := z17.blk (by omega)
  have y18 : ∀ a, a < n → a_sh (blk (blk (blk (blk (blk (blk (blk (blk (blk (blk (blk (blk (blk (blk (blk (blk (blk (blk h b 1 (2, 1, 400) n) b 4 (2, 0, 24) (n + 1)) b 5 (2, 0, 24) (n + 2)) b 6 (2, 0, 24) (n + 3)) b 7 (2, 0, 24) (n + 4)) b 8 (2, 0, 24) (n + 5)) b 9 (2, 0, 24) (n + 6)) b 18 (2, 0, 60) (n + 7)) b 19 (2, 0, 60) (n + 8)) b 20 (2, 0, 60) (n + 9)) b 21 (2, 0, 60) (n + 10)) b 22 (2, 0, 60) (n + 11)) b 23 (2, 0, 60) (n + 12)) b 24 (3, 0, 60) (n + 13)) b 25 (3, 0, 3) (n + 14)) b 26 (2, 0, 12) (n + 15)) b 28 (2, 0, 12) (n + 16)) b 29 (2, 0, 6) (n + 17)) a = a_sh h a := fun a ha => (sh_blk z17 (by omega)).trans (y17 a ha)
  have z19 : CO (blk (blk (blk (blk (blk (blk (blk (blk (blk (blk (blk (blk (blk (blk (blk (blk (blk (blk (blk h b 1 (2, 1, 400) n) b 4 (2, 0, 24) (n + 1)) b 5 (2, 0, 24) (n + 2)) b 6 (2, 0, 24) (n + 3)) b 7 (2, 0, 24) (n + 4)) b 8 (2, 0, 24) (n + 5)) b 9 (2, 0, 24) (n + 6)) b 18 (2, 0, 60) (n + 7)) b 19 (2, 0, 60) (n + 8)) b 20 (2, 0, 60) (n + 9)) b 21 (2, 0, 60) (n + 10)) b 22 (2, 0, 60) (n + 11)) b 23 (2, 0, 60) (n + 12)) b 24 (3, 0, 60) (n + 13)) b 25 (3, 0, 3) (n + 14)) b 26 (2, 0, 12) (n + 15)) b 28 (2, 0, 12) (n + 16)) b 29 (2, 0, 6) (n + 17)) b 30 (2, 0, 12) (n + 18)) (n + 19) := z18.blk (by omega)
  have y19 : ∀ a, a < n → a_sh (blk (blk (blk (blk (blk (blk (blk (blk (blk (blk (blk (blk (blk (blk (blk (blk (blk (blk (blk h b 1 (2, 1, 400) n) b 4 (2, 0, 24) (n + 1)) b 5 (2, 0, 24) (n + 2)) b 6 (2, 0, 24) (n + 3)) b 7 (2, 0, 24) (n + 4)) b 8 (2, 0, 24) (n + 5)) b 9 (2, 0, 24) (n + 6)) b 18 (2, 0, 60) (n + 7)) b 19 (2, 0, 60) (n + 8)) b 20 (2, 0, 60) (n + 9)) b 21 (2, 0, 60) (n + 10)) b 22 (2, 0, 60) (n + 11)) b 23 (2, 0, 60) (n + 12)) b 24 (3, 0, 60) (n + 13)) b 25 (3, 0, 3) (n + 14)) b 26 (2, 0, 12) (n + 15)) b 28 (2, 0, 12) (n + 16)) b 29 (2, 0, 6) (n + 17)) b 30 (2, 0, 12) (n + 18)) a = a_sh h a := fun a ha => (sh_blk z18 (by omega)).trans (y18 a ha)
  have z20 : CO (blk (blk (blk (blk (blk (blk (blk (blk (blk (blk (blk (blk (blk (blk (blk (blk (blk (blk (blk (blk h b 1 (2, 1, 400) n) b 4 (2, 0, 24) (n + 1)) b 5 (2, 0, 24) (n + 2)) b 6 (2, 0, 24) (n + 3)) b 7 (2, 0, 24) (n + 4)) b 8 (2, 0, 24) (n + 5)) b 9 (2, 0, 24) (n + 6)) b 18 (2, 0, 60) (n + 7)) b 19 (2, 0, 60) (n + 8)) b 20 (2, 0, 60) (n + 9)) b 21 (2, 0, 60) (n + 10)) b 22 (2, 0, 60) (n + 11)) b 23 (2, 0, 60) (n + 12)) b 24 (3, 0, 60) (n + 13)) b 25 (3, 0, 3) (n + 14)) b 26 (2, 0, 12) (n + 15)) b 28 (2, 0, 12) (n + 16)) b 29 (2, 0, 6) (n + 17)) b 30 (2, 0, 12) (n + 18)) b 33 (2, 0, 36) (n + 19)) (n + 20) := z19.blk (by omega)
  have y20 : ∀ a, a < n → a_sh (blk (blk (blk (blk (blk (blk (blk (blk (blk (blk (blk (blk (blk (blk (blk (blk (blk (blk (blk (blk h b 1 (2, 1, 400) n) b 4 (2, 0, 24) (n + 1)) b 5 (2, 0, 24) (n + 2)) b 6 (2, 0, 24) (n + 3)) b 7 (2, 0, 24) (n + 4)) b 8 (2, 0, 24) (n + 5)) b 9 (2, 0, 24) (n + 6)) b 18 (2, 0, 60) (n + 7)) b 19 (2, 0, 60) (n + 8)) b 20 (2, 0, 60) (n + 9)) b 21 (2, 0, 60) (n + 10)) b 22 (2, 0, 60) (n + 11)) b 23 (2, 0, 60) (n + 12)) b 24 (3, 0, 60) (n + 13)) b 25 (3, 0, 3) (n + 14)) b 26 (2, 0, 12) (n + 15)) b 28 (2, 0, 12) (n + 16)) b 29 (2, 0, 6) (n + 17)) b 30 (2, 0, 12) (n + 18)) b 33 (2, 0, 36) (n + 19)) a = a_sh h a := fun a ha => (sh_blk z19 (by omega)).trans (y19 a ha)
  have z21 : CO (blk (blk (blk (blk (blk (blk (blk (blk (blk (blk (blk (blk (blk (blk (blk (blk (blk (blk (blk (blk (blk h b 1 (2, 1, 400) n) b 4 (2, 0, 24) (n + 1)) b 5 (2, 0, 24) (n + 2)) b 6 (2, 0, 24) (n + 3)) b 7 (2, 0, 24) (n + 4)) b 8 (2, 0, 24) (n + 5)) b 9 (2, 0, 24) (n + 6)) b 18 (2, 0, 60) (n + 7)) b 19 (2, 0, 60) (n + 8)) b 20 (2, 0, 60) (n + 9)) b 21 (2, 0, 60) (n + 10)) b 22 (2, 0, 60) (n + 11)) b 23 (2, 0, 60) (n + 12)) b 24 (3, 0, 60) (n + 13)) b 25 (3, 0, 3) (n + 14)) b 26 (2, 0, 12) (n + 15)) b 28 (2, 0, 12) (n + 16)) b 29 (2, 0, 6) (n + 17)) b 30 (2, 0, 12) (n + 18)) b 33 (2, 0, 36) (n + 19)) b 35 (2, 0, 8) (n + 20)) (n + 21) := z20.blk (by omega)
  have y21 : ∀ a, a < n → a_sh (blk (blk (blk (blk (blk (blk (blk (blk (blk (blk (blk (blk (blk (blk (blk (blk (blk (blk (blk (blk (blk h b 1 (2, 1, 400) n) b 4 (2, 0, 24) (n + 1)) b 5 (2, 0, 24) (n + 2)) b 6 (2, 0, 24) (n + 3)) b 7 (2, 0, 24) (n + 4)) b 8 (2, 0, 24) (n + 5)) b 9 (2, 0, 24) (n + 6)) b 18 (2, 0, 60) (n + 7)) b 19 (2, 0, 60) (n + 8)) b 20 (2, 0, 60) (n + 9)) b 21 (2, 0, 60) (n + 10)) b 22 (2, 0, 60) (n + 11)) b 23 (2, 0, 60) (n + 12)) b 24 (3, 0, 60) (n + 13)) b 25 (3, 0, 3) (n + 14)) b 26 (2, 0, 12) (n + 15)) b 28 (2, 0, 12) (n + 16)) b 29 (2, 0, 6) (n + 17)) b 30 (2, 0, 12) (n + 18)) b 33 (2, 0, 36) (n + 19)) b 35 (2, 0, 8) (n + 20)) a = a_sh h a := fun a ha => (sh_blk z20 (by omega)).trans (y20 a ha)
  have z22 : CO (blk (blk (blk (blk (blk (blk (blk (blk (blk (blk (blk (blk (blk (blk (blk (blk (blk (blk (blk (blk (blk (blk h b 1 (2, 1, 400) n) b 4 (2, 0, 24) (n + 1)) b 5 (2, 0, 24) (n + 2)) b 6 (2, 0, 24) (n + 3)) b 7 (2, 0, 24) (n + 4)) b 8 (2, 0, 24) (n + 5)) b 9 (2, 0, 24) (n + 6)) b 18 (2, 0, 60) (n + 7)) b 19 (2, 0, 60) (n + 8)) b 20 (2, 0, 60) (n + 9)) b 21 (2, 0, 60) (n + 10)) b 22 (2, 0, 60) (n + 11)) b 23 (2, 0, 60) (n + 12)) b 24 (3, 0, 60) (n + 13)) b 25 (3, 0, 3) (n + 14)) b 26 (2, 0, 12) (n + 15)) b 28 (2, 0, 12) (n + 16)) b 29 (2, 0, 6) (n + 17)) b 30 (2, 0, 12) (n + 18)) b 33 (2, 0, 36) (n + 19)) b 35 (2, 0, 8) (n + 20)) b 36 (2, 0, 8) (n + 21)) (n + 22) := z21.blk (by omega)
  have y22 : ∀ a, a < n → a_sh (blk (blk (blk (blk (blk (blk (blk (blk (blk (blk (blk (blk (blk (blk (blk (blk (blk (blk (blk (blk (blk (blk h b 1 (2, 1, 400) n) b 4 (2, 0, 24) (n + 1)) b 5 (2, 0, 24) (n + 2)) b 6 (2, 0, 24) (n + 3)) b 7 (2, 0, 24) (n + 4)) b 8 (2, 0, 24) (n + 5)) b 9 (2, 0, 24) (n + 6)) b 18 (2, 0, 60) (n + 7)) b 19 (2, 0, 60) (n + 8)) b 20 (2, 0, 60) (n + 9)) b 21 (2, 0, 60) (n + 10)) b 22 (2, 0, 60) (n + 11)) b 23 (2, 0, 60) (n + 12)) b 24 (3, 0, 60) (n + 13)) b 25 (3, 0, 3) (n + 14)) b 26 (2, 0, 12) (n + 15)) b 28 (2, 0, 12) (n + 16)) b 29 (2, 0, 6) (n + 17)) b 30 (2, 0, 12) (n + 18)) b 33 (2, 0, 36) (n + 19)) b 35 (2, 0, 8) (n + 20)) b 36 (2, 0, 8) (n + 21)) a = a_sh h a := fun a ha => (sh_blk z21 (by omega)).trans (y21 a ha)
  have z23 : CO (blk (blk (blk (blk (blk (blk (blk (blk (blk (blk (blk (blk (blk (blk (blk (blk (blk (blk (blk (blk (blk (blk (blk h b 1 (2, 1, 400) n) b 4 (2, 0, 24) (n + 1)) b 5 (2, 0, 24) (n + 2)) b 6 (2, 0, 24) (n + 3)) b 7 (2, 0, 24) (n + 4)) b 8 (2, 0, 24) (n + 5)) b 9 (2, 0, 24) (n + 6)) b 18 (2, 0, 60) (n + 7)) b 19 (2, 0, 60) (n + 8)) b 20 (2, 0, 60) (n + 9)) b 21 (2, 0, 60) (n + 10)) b 22 (2, 0, 60) (n + 11)) b 23 (2, 0, 60) (n + 12)) b 24 (3, 0, 60) (n + 13)) b 25 (3, 0, 3) (n + 14)) b 26 (2, 0, 12) (n + 15)) b 28 (2, 0, 12) (n + 16)) b 29 (2, 0, 6) (n + 17)) b 30 (2, 0, 12) (n + 18)) b 33 (2, 0, 36) (n + 19)) b 35 (2, 0, 8) (n + 20)) b 36 (2, 0, 8) (n + 21)) b 37 (2, 2, 400) (n + 22)) (n + 23) := z22.blk (by omega)
  have y23 : ∀ a, a < n → a_sh (blk (blk (blk (blk (blk (blk (blk (blk (blk (blk (blk (blk (blk (blk (blk (blk (blk (blk (blk (blk (blk (blk (blk h b 1 (2, 1, 400) n) b 4 (2, 0, 24) (n + 1)) b 5 (2, 0, 24) (n + 2)) b 6 (2, 0, 24) (n + 3)) b 7 (2, 0, 24) (n + 4)) b 8 (2, 0, 24) (n + 5)) b 9 (2, 0, 24) (n + 6)) b 18 (2, 0, 60) (n + 7)) b 19 (2, 0, 60) (n + 8)) b 20 (2, 0, 60) (n + 9)) b 21 (2, 0, 60) (n + 10)) b 22 (2, 0, 60) (n + 11)) b 23 (2, 0, 60) (n + 12)) b 24 (3, 0, 60) (n + 13)) b 25 (3, 0, 3) (n + 14)) b 26 (2, 0, 12) (n + 15)) b 28 (2, 0, 12) (n + 16)) b 29 (2, 0, 6) (n + 17)) b 30 (2, 0, 12) (n + 18)) b 33 (2, 0, 36) (n + 19)) b 35 (2, 0, 8) (n + 20)) b 36 (2, 0, 8) (n + 21)) b 37 (2, 2, 400) (n + 22)) a = a_sh h a := fun a ha => (sh_blk z22 (by omega)).trans (y22 a ha)
  have z24 : CO (blk (blk (blk (blk (blk (blk (blk (blk (blk (blk (blk (blk (blk (blk (blk (blk (blk (blk (blk (blk (blk (blk (blk (blk h b 1 (2, 1, 400) n) b 4 (2, 0, 24) (n + 1)) b 5 (2, 0, 24) (n + 2)) b 6 (2, 0, 24) (n + 3)) b 7 (2, 0, 24) (n + 4)) b 8 (2, 0, 24) (n + 5)) b 9 (2, 0, 24) (n + 6)) b 18 (2, 0, 60) (n + 7)) b 19 (2, 0, 60) (n + 8)) b 20 (2, 0, 60) (n + 9)) b 21 (2, 0, 60) (n + 10)) b 22 (2, 0, 60) (n + 11)) b 23 (2, 0, 60) (n + 12)) b 24 (3, 0, 60) (n + 13)) b 25 (3, 0, 3) (n + 14)) b 26 (2, 0, 12) (n + 15)) b 28 (2, 0, 12) (n + 16)) b 29 (2, 0, 6) (n + 17)) b 30 (2, 0, 12) (n + 18)) b 33 (2, 0, 36) (n + 19)) b 35 (2, 0, 8) (n + 20)) b 36 (2, 0, 8) (n + 21)) b 37 (2, 2, 400) (n + 22)) b 39 (2, 0, 12) (n + 23)) (n + 24) := z23.blk (by omega)
  have y24 : ∀ a, a < n → a_sh (blk (blk (blk (blk (blk (blk (blk (blk (blk (blk (blk (blk (blk (blk (blk (blk (blk (blk (blk (blk (blk (blk (blk (blk h b 1 (2, 1, 400) n) b 4 (2, 0, 24) (n + 1)) b 5 (2, 0, 24) (n + 2)) b 6 (2, 0, 24) (n + 3)) b 7 (2, 0, 24) (n + 4)) b 8 (2, 0, 24) (n + 5)) b 9 (2, 0, 24) (n + 6)) b 18 (2, 0, 60) (n + 7)) b 19 (2, 0, 60) (n + 8)) b 20 (2, 0, 60) (n + 9)) b 21 (2, 0, 60) (n + 10)) b 22 (2, 0, 60) (n + 11)) b 23 (2, 0, 60) (n + 12)) b 24 (3, 0, 60) (n + 13)) b 25 (3, 0, 3) (n + 14)) b 26 (2, 0, 12) (n + 15)) b 28 (2, 0, 12) (n + 16)) b 29 (2, 0, 6) (n + 17)) b 30 (2, 0, 12) (n + 18)) b 33 (2, 0, 36) (n + 19)) b 35 (2, 0, 8) (n + 20)) b 36 (2, 0, 8) (n + 21)) b 37 (2, 2, 400) (n + 22)) b 39 (2, 0, 12) (n + 23)) a = a_sh h a := fun a ha => (sh_blk z23 (by omega)).trans (y23 a ha)
  have z25 : CO (blk (blk (blk (blk (blk (blk (blk (blk (blk (blk (blk (blk (blk (blk (blk (blk (blk (blk (blk (blk (blk (blk (blk (blk (blk h b 1 (2, 1, 400) n) b 4 (2, 0, 24) (n + 1)) b 5 (2, 0, 24) (n + 2)) b 6 (2, 0, 24) (n + 3)) b 7 (2, 0, 24) (n + 4)) b 8 (2, 0, 24) (n + 5)) b 9 (2, 0, 24) (n + 6)) b 18 (2, 0, 60) (n + 7)) b 19 (2, 0, 60) (n + 8)) b 20 (2, 0, 60) (n + 9)) b 21 (2, 0, 60) (n + 10)) b 22 (2, 0, 60) (n + 11)) b 23 (2, 0, 60) (n + 12)) b 24 (3, 0, 60) (n + 13)) b 25 (3, 0, 3) (n + 14)) b 26 (2, 0, 12) (n + 15)) b 28 (2, 0, 12) (n + 16)) b 29 (2, 0, 6) (n + 17)) b 30 (2, 0, 12) (n + 18)) b 33 (2, 0, 36) (n + 19)) b 35 (2, 0, 8) (n + 20)) b 36 (2, 0, 8) (n + 21)) b 37 (2, 2, 400) (n + 22)) b 39 (2, 0, 12) (n + 23)) b 40 (2, 0, 13) (n + 24)) (n + 25) := z24.blk (by omega)
  have y25 : ∀ a, a < n → a_sh (blk (blk (blk (blk (blk (blk (blk (blk (blk (blk (blk (blk (blk (blk (blk (blk (blk (blk (blk (blk (blk (blk (blk (blk (blk h b 1 (2, 1, 400) n) b 4 (2, 0, 24) (n + 1)) b 5 (2, 0, 24) (n + 2)) b 6 (2, 0, 24) (n + 3)) b 7 (2, 0, 24) (n + 4)) b 8 (2, 0, 24) (n + 5)) b 9 (2, 0, 24) (n + 6)) b 18 (2, 0, 60) (n + 7)) b 19 (2, 0, 60) (n + 8)) b 20 (2, 0, 60) (n + 9)) b 21 (2, 0, 60) (n + 10)) b 22 (2, 0, 60) (n + 11)) b 23 (2, 0, 60) (n + 12)) b 24 (3, 0, 60) (n + 13)) b 25 (3, 0, 3) (n + 14)) b 26 (2, 0, 12) (n + 15)) b 28 (2, 0, 12) (n + 16)) b 29 (2, 0, 6) (n + 17)) b 30 (2, 0, 12) (n + 18)) b 33 (2, 0, 36) (n + 19)) b 35 (2, 0, 8) (n + 20)) b 36 (2, 0, 8) (n + 21)) b 37 (2, 2, 400) (n + 22)) b 39 (2, 0, 12) (n + 23)) b 40 (2, 0, 13) (n + 24)) a = a_sh h a := fun a ha => (sh_blk z24 (by omega)).trans (y24 a ha)
  have z26 : CO (blk (blk (blk (blk (blk (blk (blk (blk (blk (blk (blk (blk (blk (blk (blk (blk (blk (blk (blk (blk (blk (blk (blk (blk (blk (blk h b 1 (2, 1, 400) n) b 4 (2, 0, 24) (n + 1)) b 5 (2, 0, 24) (n + 2)) b 6 (2, 0, 24) (n + 3)) b 7 (2, 0, 24) (n + 4)) b 8 (2, 0, 24) (n + 5)) b 9 (2, 0, 24) (n + 6)) b 18 (2, 0, 60) (n + 7)) b 19 (2, 0, 60) (n + 8)) b 20 (2, 0, 60) (n + 9)) b 21 (2, 0, 60) (n + 10)) b 22 (2, 0, 60) (n + 11)) b 23 (2, 0, 60) (n + 12)) b 24 (3, 0, 60) (n + 13)) b 25 (3, 0, 3) (n + 14)) b 26 (2, 0, 12) (n + 15)) b 28 (2, 0, 12) (n + 16)) b 29 (2, 0, 6) (n + 17)) b 30 (2, 0, 12) (n + 18)) b 33 (2, 0, 36) (n + 19)) b 35 (2, 0, 8) (n + 20)) b 36 (2, 0, 8) (n + 21)) b 37 (2, 2, 400) (n + 22)) b 39 (2, 0, 12) (n + 23)) b 40 (2, 0, 13) (n + 24)) b 41 (2, 0, 13) (n + 25)) (n + 26) := z25.blk (by omega)
  have y26 : ∀ a, a < n → a_sh (blk (blk (blk (blk (blk (blk (blk (blk (blk (blk (blk (blk (blk (blk (blk (blk (blk (blk (blk (blk (blk (blk (blk (blk (blk (blk h b 1 (2, 1, 400) n) b 4 (2, 0, 24) (n + 1)) b 5 (2, 0, 24) (n + 2)) b 6 (2, 0, 24) (n + 3)) b 7 (2, 0, 24) (n + 4)) b 8 (2, 0, 24) (n + 5)) b 9 (2, 0, 24) (n + 6)) b 18 (2, 0, 60) (n + 7)) b 19 (2, 0, 60) (n + 8)) b 20 (2, 0, 60) (n + 9)) b 21 (2, 0, 60) (n + 10)) b 22 (2, 0, 60) (n + 11)) b 23 (2, 0, 60) (n + 12)) b 24 (3, 0, 60) (n + 13)) b 25 (3, 0, 3) (n + 14)) b 26 (2, 0, 12) (n + 15)) b 28 (2, 0, 12) (n + 16)) b 29 (2, 0, 6) (n + 17)) b 30 (2, 0, 12) (n + 18)) b 33 (2, 0, 36) (n + 19)) b 35 (2, 0, 8) (n + 20)) b 36 (2, 0, 8) (n + 21)) b 37 (2, 2, 400) (n + 22)) b 39 (2, 0, 12) (n + 23)) b 40 (2, 0, 13) (n + 24)) b 41 (2, 0, 13) (n + 25)) a = a_sh h a := fun a ha => (sh_blk z25 (by omega)).trans (y25 a ha)
  have z27 : CO (a_fset (blk (blk (blk (blk (blk (blk (blk (blk (blk (blk (blk (blk (blk (blk (blk (blk (blk (blk (blk (blk (blk (blk (blk (blk (blk (blk h b 1 (2, 1, 400) n) b 4 (2, 0, 24) (n + 1)) b 5 (2, 0, 24) (n + 2)) b 6 (2, 0, 24) (n + 3)) b 7 (2, 0, 24) (n + 4)) b 8 (2, 0, 24) (n + 5)) b 9 (2, 0, 24) (n + 6)) b 18 (2, 0, 60) (n + 7)) b 19 (2, 0, 60) (n + 8)) b 20 (2, 0, 60) (n + 9)) b 21 (2, 0, 60) (n + 10)) b 22 (2, 0, 60) (n + 11)) b 23 (2, 0, 60) (n + 12)) b 24 (3, 0, 60) (n + 13)) b 25 (3, 0, 3) (n + 14)) b 26 (2, 0, 12) (n + 15)) b 28 (2, 0, 12) (n + 16)) b 29 (2, 0, 6) (n + 17)) b 30 (2, 0, 12) (n + 18)) b 33 (2, 0, 36) (n + 19)) b 35 (2, 0, 8) (n + 20)) b 36 (2, 0, 8) (n + 21)) b 37 (2, 2, 400) (n + 22)) b 39 (2, 0, 12) (n + 23)) b 40 (2, 0, 13) (n + 24)) b 41 (2, 0, 13) (n + 25)) b 3 (.int (Int32.ofInt (0)))) (n + 26) := z26.fint
  have y27 : ∀ a, a < n → a_sh (a_fset (blk (blk (blk (blk (blk (blk (blk (blk (blk (blk (blk (blk (blk (blk (blk (blk (blk (blk (blk (blk (blk (blk (blk (blk (blk (blk h b 1 (2, 1, 400) n) b 4 (2, 0, 24) (n + 1)) b 5 (2, 0, 24) (n + 2)) b 6 (2, 0, 24) (n + 3)) b 7 (2, 0, 24) (n + 4)) b 8 (2, 0, 24) (n + 5)) b 9 (2, 0, 24) (n + 6)) b 18 (2, 0, 60) (n + 7)) b 19 (2, 0, 60) (n + 8)) b 20 (2, 0, 60) (n + 9)) b 21 (2, 0, 60) (n + 10)) b 22 (2, 0, 60) (n + 11)) b 23 (2, 0, 60) (n + 12)) b 24 (3, 0, 60) (n + 13)) b 25 (3, 0, 3) (n + 14)) b 26 (2, 0, 12) (n + 15)) b 28 (2, 0, 12) (n + 16)) b 29 (2, 0, 6) (n + 17)) b 30 (2, 0, 12) (n + 18)) b 33 (2, 0, 36) (n + 19)) b 35 (2, 0, 8) (n + 20)) b 36 (2, 0, 8) (n + 21)) b 37 (2, 2, 400) (n + 22)) b 39 (2, 0, 12) (n + 23)) b 40 (2, 0, 13) (n + 24)) b 41 (2, 0, 13) (n + 25)) b 3 (.int (Int32.ofInt (0)))) a = a_sh h a := fun a ha => y26 a ha
  refine ⟨?_, z27, y27⟩
  rw [jS173 hb3]
  rw [j173_0 z0 hb_0 hn_0 ((y0 b hb).trans sh)]
  rw [j173_1 z1 hb_1 hn_1 ((y1 b hb).trans sh)]
  rw [j173_2 z2 hb_2 hn_2 ((y2 b hb).trans sh)]
  rw [j173_3 z3 hb_3 hn_3 ((y3 b hb).trans sh)]
  rw [j173_4 z4 hb_4 hn_4 ((y4 b hb).trans sh)]
  rw [j173_5 z5 hb_5 hn_5 ((y5 b hb).trans sh)]
  rw [j173_6 z6 hb_6 hn_6 ((y6 b hb).trans sh)]
  rw [j173_7 z7 hb_7 hn_7 ((y7 b hb).trans sh)]
  rw [j173_8 z8 hb_8 hn_8 ((y8 b hb).trans sh)]
  rw [j173_9 z9 hb_9 hn_9 ((y9 b hb).trans sh)]
  rw [j173_10 z10 hb_10 hn_10 ((y10 b hb).trans sh)]
  rw [j173_11 z11 hb_11 hn_11 ((y11 b hb).trans sh)]
  rw [j173_12 z12 hb_12 hn_12 ((y12 b hb).trans sh)]
  rw [j173_13 z13 hb_13 hn_13 ((y13 b hb).trans sh)]
  rw [j173_14 z14 hb_14 hn_14 ((y14 b hb).trans sh)]
  rw [j173_15 z15 hb_15 hn_15 ((y15 b hb).trans sh)]
  rw [j173_16 z16 hb_16 hn_16 ((y16 b hb).trans sh)]
  rw [j173_17 z17 hb_17 hn_17 ((y17 b hb).trans sh)]
  rw [j173_18 z18 hb_18 hn_18 ((y18 b hb).trans sh)]
  rw [j173_19 z19 hb_19 hn_19 ((y19 b hb).trans sh)]
  rw [j173_20 z20 hb_20 hn_20 ((y20 b hb).trans sh)]
  rw [j173_21 z21 hb_21 hn_21 ((y21 b hb).trans sh)]
  rw [j173_22 z22 hb_22 hn_22 ((y22 b hb).trans sh)]
  rw [j173_23 z23 hb_23 hn_23 ((y23 b hb).trans sh)]
  rw [j173_24 z24 hb_24 hn_24 ((y24 b hb).trans sh)]
  rw [j173_25 z25 hb_25 hn_25 ((y25 b hb).trans sh)]
  rw [j173_26 z26 hb_26 hn_26 ((y26 b hb).trans sh)]
  rw [f173_218]
  unfold hI12
  rfl
def hI11 (h : aH) (b n : Nat) : aH := (a_fset (hI3 (a_make (a_fset (hI3 (a_make (a_fset (hI10 (a_make (a_fset (hI2 (a_make (a_fset (hI4 (a_make (a_fset (hI6 (a_make (a_fset (hI1 (a_make (a_fset (hI8 (a_make (a_fset (hI5 (a_make (a_fset (hI5 (a_make (a_fset (hI9 (a_make (a_fset (hI7 (a_make h (1, 7, 7) (a_dv 7)) n (n + 1)) b 0 (.ref n)) (1, 9, 12) (a_dv 9)) (n + 2) (n + 3)) b 1 (.ref (n + 2))) (1, 5, 5) (a_dv 5)) (n + 13) (n + 14)) b 2 (.ref (n + 13))) (1, 5, 5) (a_dv 5)) (n + 18) (n + 19)) b 3 (.ref (n + 18))) (1, 8, 6) (a_dv 8)) (n + 23) (n + 24)) b 4 (.ref (n + 23))) (1, 1, 1) (a_dv 1)) (n + 44) (n + 45)) b 5 (.ref (n + 44))) (1, 6, 2) (a_dv 6)) (n + 46) (n + 47)) b 6 (.ref (n + 46))) (1, 4, 8) (a_dv 4)) (n + 49) (n + 50)) b 7 (.ref (n + 49))) (1, 2, 3) (a_dv 2)) (n + 53) (n + 54)) b 8 (.ref (n + 53))) (1, 10, 4) (a_dv 10)) (n + 54) (n + 55)) b 9 (.ref (n + 54))) (1, 3, 10) (a_dv 3)) (n + 58) (n + 59)) b 10 (.ref (n + 58))) (1, 3, 10) (a_dv 3)) (n + 65) (n + 66)) b 11 (.ref (n + 65)))
theorem jS132 {d b : Nat} {h : aH} {post : Option Value → aH → Prop} (b3 : ¬ b = 1003) : R (d + 4) 0 0 132 0 [.ref b] [] h post = R (d + 4) 0 0 132 4 [.ref b] [] h post := by
  simp only [f132_0, f132_1, b3, a_clr, Option.toList_some, Option.toList_none, List.cons_append, List.nil_append, a_cw, List.map_cons, List.map_nil, List.sum_cons, List.sum_nil, Value.category, ne_eq, not_false_eq_true, true_and, and_true, Nat.reduceLeDiff, Nat.reduceAdd, Nat.reduceEqDiff, or_true, true_or, false_or, and_self, a_sh_fset]
theorem j132_0 {d n b : Nat} {h : aH} {post : Option Value → aH → Prop} (c : CO h n) (hb : b < n) (hn : n + 2 < 990) (sh : a_sh h b = (1, 11, 12)) : R (d + 4) 0 0 132 4 [.ref b] [] h post = R (d + 4) 2 407 132 15 [.ref b] [] (a_fset (hI7 (a_make h (1, 7, 7) (a_dv 7)) n (n + 1)) b 0 (.ref n)) post := by
  have b3 : ¬ b = 1003 := by omega
  have g : a_nn h = n := c.2
  have n1 : (n < 1000) = True := eq_true (by omega)
  have n3 : ¬ n = 1003 := by omega
  have bn : ¬ b = n := by omega
  have fr : a_frs [.ref b] [.ref b] h = True := eq_true (frs1 c (fun v hv r e => by simp at hv; subst hv; cases e; omega) (fun v hv r e => by simp at hv; subst hv; cases e; omega))
  have m : CO (a_make h (1, 7, 7) (a_dv 7)) (n + 1) := c.make (by omega) (dv_ref 7 (by decide))
  have w : a_sh (a_make h (1, 7, 7) (a_dv 7)) n = (1, 7, 7) := by rw [sh_make, g, if_pos rfl]
  have v : a_sh (a_make h (1, 7, 7) (a_dv 7)) b = (1, 11, 12) := by rw [sh_make, g, if_neg bn]; exact sh
  have kq := fun d post => (iI7 (d := d) (post := post) m (show n < n + 1 by omega) (by omega) w).1
  have l := iI7 (d := 0) (post := fun _ _ => True) m (show n < n + 1 by omega) (by omega) w
  have p : a_sh (hI7 (a_make h (1, 7, 7) (a_dv 7)) n (n + 1)) b = (1, 11, 12) := (l.2.2 b (by omega)).trans v
  have q : a_frs [.ref b] [.ref n, .ref b] (a_make h (1, 7, 7) (a_dv 7)) = True := eq_true (frs1 m (fun v hv r e => by simp at hv; subst hv; cases e; omega) (fun v hv r e => by simp at hv; rcases hv with hv | hv <;> (subst hv; cases e; omega)))
  simp only [f132_4, f132_5, f132_8, f132_9, f132_12, b3, g, n1, n3, fr, q, kq, p, a_clr, Option.toList_some, Option.toList_none, List.cons_append, List.nil_append, a_cw, List.map_cons, List.map_nil, List.sum_cons, List.sum_nil, Value.category, ne_eq, not_false_eq_true, true_and, and_true, Nat.reduceLeDiff, Nat.reduceAdd, Nat.reduceEqDiff, or_true, true_or, false_or, and_self, a_sh_fset]
theorem j132_1 {d n b : Nat} {h : aH} {post : Option Value → aH → Prop} (c : CO h n) (hb : b < n) (hn : n + 11 < 990) (sh : a_sh h b = (1, 11, 12)) : R (d + 4) 2 407 132 15 [.ref b] [] h post = R (d + 4) 13 905 132 26 [.ref b] [] (a_fset (hI9 (a_make h (1, 9, 12) (a_dv 9)) n (n + 1)) b 1 (.ref n)) post := by
  have b3 : ¬ b = 1003 := by omega
  have g : a_nn h = n := c.2
  have n1 : (n < 1000) = True := eq_true (by omega)
  have n3 : ¬ n = 1003 := by omega
  have bn : ¬ b = n := by omega
  have fr : a_frs [.ref b] [.ref b] h = True := eq_true (frs1 c (fun v hv r e => by simp at hv; subst hv; cases e; omega) (fun v hv r e => by simp at hv; subst hv; cases e; omega))
  have m : CO (a_make h (1, 9, 12) (a_dv 9)) (n + 1) := c.make (by omega) (dv_ref 9 (by decide))
  have w : a_sh (a_make h (1, 9, 12) (a_dv 9)) n = (1, 9, 12) := by rw [sh_make, g, if_pos rfl]
  have v : a_sh (a_make h (1, 9, 12) (a_dv 9)) b = (1, 11, 12) := by rw [sh_make, g, if_neg bn]; exact sh
  have kq := fun d post => (iI9 (d := d) (post := post) m (show n < n + 1 by omega) (by omega) w).1
  have l := iI9 (d := 0) (post := fun _ _ => True) m (show n < n + 1 by omega) (by omega) w
  have p : a_sh (hI9 (a_make h (1, 9, 12) (a_dv 9)) n (n + 1)) b = (1, 11, 12) := (l.2.2 b (by omega)).trans v
  have q : a_frs [.ref b] [.ref n, .ref b] (a_make h (1, 9, 12) (a_dv 9)) = True := eq_true (frs1 m (fun v hv r e => by simp at hv; subst hv; cases e; omega) (fun v hv r e => by simp at hv; rcases hv with hv | hv <;> (subst hv; cases e; omega)))
  simp only [f132_15, f132_16, f132_19, f132_20, f132_23, b3, g, n1, n3, fr, q, kq, p, a_clr, Option.toList_some, Option.toList_none, List.cons_append, List.nil_append, a_cw, List.map_cons, List.map_nil, List.sum_cons, List.sum_nil, Value.category, ne_eq, not_false_eq_true, true_and, and_true, Nat.reduceLeDiff, Nat.reduceAdd, Nat.reduceEqDiff, or_true, true_or, false_or, and_self, a_sh_fset]
theorem j132_2 {d n b : Nat} {h : aH} {post : Option Value → aH → Prop} (c : CO h n) (hb : b < n) (hn : n + 5 < 990) (sh : a_sh h b = (1, 11, 12)) : R (d + 4) 13 905 132 26 [.ref b] [] h post = R (d + 4) 18 940 132 37 [.ref b] [] (a_fset (hI5 (a_make h (1, 5, 5) (a_dv 5)) n (n + 1)) b 2 (.ref n)) post := by
  have b3 : ¬ b = 1003 := by omega
  have g : a_nn h = n := c.2
  have n1 : (n < 1000) = True := eq_true (by omega)
  have n3 : ¬ n = 1003 := by omega
  have bn : ¬ b = n := by omega
  have fr : a_frs [.ref b] [.ref b] h = True := eq_true (frs1 c (fun v hv r e => by simp at hv; subst hv; cases e; omega) (fun v hv r e => by simp at hv; subst hv; cases e; omega))
  have m : CO (a_make h (1, 5, 5) (a_dv 5)) (n + 1) := c.make (by omega) (dv_ref 5 (by decide))
  have w : a_sh (a_make h (1, 5, 5) (a_dv 5)) n = (1, 5, 5) := by rw [sh_make, g, if_pos rfl]
  have v : a_sh (a_make h (1, 5, 5) (a_dv 5)) b = (1, 11, 12) := by rw [sh_make, g, if_neg bn]; exact sh
  have kq := fun d post => (iI5 (d := d) (post := post) m (show n < n + 1 by omega) (by omega) w).1
  have l := iI5 (d := 0) (post := fun _ _ => True) m (show n < n + 1 by omega) (by omega) w
  have p : a_sh (hI5 (a_make h (1, 5, 5) (a_dv 5)) n (n + 1)) b = (1, 11, 12) := (l.2.2 b (by omega)).trans v
  have q : a_frs [.ref b] [.ref n, .ref b] (a_make h (1, 5, 5) (a_dv 5)) = True := eq_true (frs1 m (fun v hv r e => by simp at hv; subst hv; cases e; omega) (fun v hv r e => by simp at hv; rcases hv with hv | hv <;> (subst hv; cases e; omega)))
  simp only [f132_26, f132_27, f132_30, f132_31, f132_34, b3, g, n1, n3, fr, q, kq, p, a_clr, Option.toList_some, Option.toList_none, List.cons_append, List.nil_append, a_cw, List.map_cons, List.map_nil, List.sum_cons, List.sum_nil, Value.category, ne_eq, not_false_eq_true, true_and, and_true, Nat.reduceLeDiff, Nat.reduceAdd, Nat.reduceEqDiff, or_true, true_or, false_or, and_self, a_sh_fset]
theorem j132_3 {d n b : Nat} {h : aH} {post : Option Value → aH → Prop} (c : CO h n) (hb : b < n) (hn : n + 5 < 990) (sh : a_sh h b = (1, 11, 12)) : R (d + 4) 18 940 132 37 [.ref b] [] h post = R (d + 4) 23 975 132 48 [.ref b] [] (a_fset (hI5 (a_make h (1, 5, 5) (a_dv 5)) n (n + 1)) b 3 (.ref n)) post := by
  have b3 : ¬ b = 1003 := by omega
  have g : a_nn h = n := c.2
  have n1 : (n < 1000) = True := eq_true (by omega)
  have n3 : ¬ n = 1003 := by omega
  have bn : ¬ b = n := by omega
  have fr : a_frs [.ref b] [.ref b] h = True := eq_true (frs1 c (fun v hv r e => by simp at hv; subst hv; cases e; omega) (fun v hv r e => by simp at hv; subst hv; cases e; omega))
  have m : CO (a_make h (1, 5, 5) (a_dv 5)) (n + 1) := c.make (by omega) (dv_ref 5 (by decide))
  have w : a_sh (a_make h (1, 5, 5) (a_dv 5)) n = (1, 5, 5) := by rw [sh_make, g, if_pos rfl]
  have v : a_sh (a_make h (1, 5, 5) (a_dv 5)) b = (1, 11, 12) := by rw [sh_make, g, if_neg bn]; exact sh
  have kq := fun d post => (iI5 (d := d) (post := post) m (show n < n + 1 by omega) (by omega) w).1
  have l := iI5 (d := 0) (post := fun _ _ => True) m (show n < n + 1 by omega) (by omega) w
  have p : a_sh (hI5 (a_make h (1, 5, 5) (a_dv 5)) n (n + 1)) b = (1, 11, 12) := (l.2.2 b (by omega)).trans v
  have q : a_frs [.ref b] [.ref n, .ref b] (a_make h (1, 5, 5) (a_dv 5)) = True := eq_true (frs1 m (fun v hv r e => by simp at hv; subst hv; cases e; omega) (fun v hv r e => by simp at hv; rcases hv with hv | hv <;> (subst hv; cases e; omega)))
  simp only [f132_37, f132_38, f132_41, f132_42, f132_45, b3, g, n1, n3, fr, q, kq, p, a_clr, Option.toList_some, Option.toList_none, List.cons_append, List.nil_append, a_cw, List.map_cons, List.map_nil, List.sum_cons, List.sum_nil, Value.category, ne_eq, not_false_eq_true, true_and, and_true, Nat.reduceLeDiff, Nat.reduceAdd, Nat.reduceEqDiff, or_true, true_or, false_or, and_self, a_sh_fset]
theorem j132_4 {d n b : Nat} {h : aH} {post : Option Value → aH → Prop} (c : CO h n) (hb : b < n) (hn : n + 21 < 990) (sh : a_sh h b = (1, 11, 12)) : R (d + 4) 23 975 132 48 [.ref b] [] h post = R (d + 4) 44 1493 132 59 [.ref b] [] (a_fset (hI8 (a_make h (1, 8, 6) (a_dv 8)) n (n + 1)) b 4 (.ref n)) post := by
  have b3 : ¬ b = 1003 := by omega
  have g : a_nn h = n := c.2
  have n1 : (n < 1000) = True := eq_true (by omega)
  have n3 : ¬ n = 1003 := by omega
  have bn : ¬ b = n := by omega
  have fr : a_frs [.ref b] [.ref b] h = True := eq_true (frs1 c (fun v hv r e => by simp at hv; subst hv; cases e; omega) (fun v hv r e => by simp at hv; subst hv; cases e; omega))
  have m : CO (a_make h (1, 8, 6) (a_dv 8)) (n + 1) := c.make (by omega) (dv_ref 8 (by decide))
  have w : a_sh (a_make h (1, 8, 6) (a_dv 8)) n = (1, 8, 6) := by rw [sh_make, g, if_pos rfl]
  have v : a_sh (a_make h (1, 8, 6) (a_dv 8)) b = (1, 11, 12) := by rw [sh_make, g, if_neg bn]; exact sh
  have kq := fun d post => (iI8 (d := d) (post := post) m (show n < n + 1 by omega) (by omega) w).1
  have l := iI8 (d := 0) (post := fun _ _ => True) m (show n < n + 1 by omega) (by omega) w
  have p : a_sh (hI8 (a_make h (1, 8, 6) (a_dv 8)) n (n + 1)) b = (1, 11, 12) := (l.2.2 b (by omega)).trans v
  have q : a_frs [.ref b] [.ref n, .ref b] (a_make h (1, 8, 6) (a_dv 8)) = True := eq_true (frs1 m (fun v hv r e => by simp at hv; subst hv; cases e; omega) (fun v hv r e => by simp at hv; rcases hv with hv | hv <;> (subst hv; cases e; omega)))
  simp only [f132_48, f132_49, f132_52, f132_53, f132_56, b3, g, n1, n3, fr, q, kq, p, a_clr, Option.toList_some, Option.toList_none, List.cons_append, List.nil_append, a_cw, List.map_cons, List.map_nil, List.sum_cons, List.sum_nil, Value.category, ne_eq, not_false_eq_true, true_and, and_true, Nat.reduceLeDiff, Nat.reduceAdd, Nat.reduceEqDiff, or_true, true_or, false_or, and_self, a_sh_fset]
theorem j132_5 {d n b : Nat} {h : aH} {post : Option Value → aH → Prop} (c : CO h n) (hb : b < n) (hn : n + 2 < 990) (sh : a_sh h b = (1, 11, 12)) : R (d + 4) 44 1493 132 59 [.ref b] [] h post = R (d + 4) 46 1543 132 70 [.ref b] [] (a_fset (hI1 (a_make h (1, 1, 1) (a_dv 1)) n (n + 1)) b 5 (.ref n)) post := by
  have b3 : ¬ b = 1003 := by omega
  have g : a_nn h = n := c.2
  have n1 : (n < 1000) = True := eq_true (by omega)
  have n3 : ¬ n = 1003 := by omega
  have bn : ¬ b = n := by omega
  have fr : a_frs [.ref b] [.ref b] h = True := eq_true (frs1 c (fun v hv r e => by simp at hv; subst hv; cases e; omega) (fun v hv r e => by simp at hv; subst hv; cases e; omega))
  have m : CO (a_make h (1, 1, 1) (a_dv 1)) (n + 1) := c.make (by omega) (dv_ref 1 (by decide))
  have w : a_sh (a_make h (1, 1, 1) (a_dv 1)) n = (1, 1, 1) := by rw [sh_make, g, if_pos rfl]
  have v : a_sh (a_make h (1, 1, 1) (a_dv 1)) b = (1, 11, 12) := by rw [sh_make, g, if_neg bn]; exact sh
  have kq := fun d post => (iI1 (d := d) (post := post) m (show n < n + 1 by omega) (by omega) w).1
  have l := iI1 (d := 0) (post := fun _ _ => True) m (show n < n + 1 by omega) (by omega) w
  have p : a_sh (hI1 (a_make h (1, 1, 1) (a_dv 1)) n (n + 1)) b = (1, 11, 12) := (l.2.2 b (by omega)).trans v
  have q : a_frs [.ref b] [.ref n, .ref b] (a_make h (1, 1, 1) (a_dv 1)) = True := eq_true (frs1 m (fun v hv r e => by simp at hv; subst hv; cases e; omega) (fun v hv r e => by simp at hv; rcases hv with hv | hv <;> (subst hv; cases e; omega)))
  simp only [f132_59, f132_60, f132_63, f132_64, f132_67, b3, g, n1, n3, fr, q, kq, p, a_clr, Option.toList_some, Option.toList_none, List.cons_append, List.nil_append, a_cw, List.map_cons, List.map_nil, List.sum_cons, List.sum_nil, Value.category, ne_eq, not_false_eq_true, true_and, and_true, Nat.reduceLeDiff, Nat.reduceAdd, Nat.reduceEqDiff, or_true, true_or, false_or, and_self, a_sh_fset]
theorem j132_6 {d n b : Nat} {h : aH} {post : Option Value → aH → Prop} (c : CO h n) (hb : b < n) (hn : n + 3 < 990) (sh : a_sh h b = (1, 11, 12)) : R (d + 4) 46 1543 132 70 [.ref b] [] h post = R (d + 4) 49 1617 132 81 [.ref b] [] (a_fset (hI6 (a_make h (1, 6, 2) (a_dv 6)) n (n + 1)) b 6 (.ref n)) post := by
  have b3 : ¬ b = 1003 := by omega
  have g : a_nn h = n := c.2
  have n1 : (n < 1000) = True := eq_true (by omega)
  have n3 : ¬ n = 1003 := by omega
  have bn : ¬ b = n := by omega
  have fr : a_frs [.ref b] [.ref b] h = True := eq_true (frs1 c (fun v hv r e => by simp at hv; subst hv; cases e; omega) (fun v hv r e => by simp at hv; subst hv; cases e; omega))
  have m : CO (a_make h (1, 6, 2) (a_dv 6)) (n + 1) := c.make (by omega) (dv_ref 6 (by decide))
  have w : a_sh (a_make h (1, 6, 2) (a_dv 6)) n = (1, 6, 2) := by rw [sh_make, g, if_pos rfl]
  have v : a_sh (a_make h (1, 6, 2) (a_dv 6)) b = (1, 11, 12) := by rw [sh_make, g, if_neg bn]; exact sh
  have kq := fun d post => (iI6 (d := d) (post := post) m (show n < n + 1 by omega) (by omega) w).1
  have l := iI6 (d := 0) (post := fun _ _ => True) m (show n < n + 1 by omega) (by omega) w
  have p : a_sh (hI6 (a_make h (1, 6, 2) (a_dv 6)) n (n + 1)) b = (1, 11, 12) := (l.2.2 b (by omega)).trans v
  have q : a_frs [.ref b] [.ref n, .ref b] (a_make h (1, 6, 2) (a_dv 6)) = True := eq_true (frs1 m (fun v hv r e => by simp at hv; subst hv; cases e; omega) (fun v hv r e => by simp at hv; rcases hv with hv | hv <;> (subst hv; cases e; omega)))
  simp only [f132_70, f132_71, f132_74, f132_75, f132_78, b3, g, n1, n3, fr, q, kq, p, a_clr, Option.toList_some, Option.toList_none, List.cons_append, List.nil_append, a_cw, List.map_cons, List.map_nil, List.sum_cons, List.sum_nil, Value.category, ne_eq, not_false_eq_true, true_and, and_true, Nat.reduceLeDiff, Nat.reduceAdd, Nat.reduceEqDiff, or_true, true_or, false_or, and_self, a_sh_fset]
theorem j132_7 {d n b : Nat} {h : aH} {post : Option Value → aH → Prop} (c : CO h n) (hb : b < n) (hn : n + 4 < 990) (sh : a_sh h b = (1, 11, 12)) : R (d + 4) 49 1617 132 81 [.ref b] [] h post = R (d + 4) 53 1661 132 92 [.ref b] [] (a_fset (hI4 (a_make h (1, 4, 8) (a_dv 4)) n (n + 1)) b 7 (.ref n)) post := by
  have b3 : ¬ b = 1003 := by omega
  have g : a_nn h = n := c.2
  have n1 : (n < 1000) = True := eq_true (by omega)
  have n3 : ¬ n = 1003 := by omega
  have bn : ¬ b = n := by omega
  have fr : a_frs [.ref b] [.ref b] h = True := eq_true (frs1 c (fun v hv r e => by simp at hv; subst hv; cases e; omega) (fun v hv r e => by simp at hv; subst hv; cases e; omega))
  have m : CO (a_make h (1, 4, 8) (a_dv 4)) (n + 1) := c.make (by omega) (dv_ref 4 (by decide))
  have w : a_sh (a_make h (1, 4, 8) (a_dv 4)) n = (1, 4, 8) := by rw [sh_make, g, if_pos rfl]
  have v : a_sh (a_make h (1, 4, 8) (a_dv 4)) b = (1, 11, 12) := by rw [sh_make, g, if_neg bn]; exact sh
  have kq := fun d post => (iI4 (d := d) (post := post) m (show n < n + 1 by omega) (by omega) w).1
  have l := iI4 (d := 0) (post := fun _ _ => True) m (show n < n + 1 by omega) (by omega) w
  have p : a_sh (hI4 (a_make h (1, 4, 8) (a_dv 4)) n (n + 1)) b = (1, 11, 12) := (l.2.2 b (by omega)).trans v
  have q : a_frs [.ref b] [.ref n, .ref b] (a_make h (1, 4, 8) (a_dv 4)) = True := eq_true (frs1 m (fun v hv r e => by simp at hv; subst hv; cases e; omega) (fun v hv r e => by simp at hv; rcases hv with hv | hv <;> (subst hv; cases e; omega)))
  simp only [f132_81, f132_82, f132_85, f132_86, f132_89, b3, g, n1, n3, fr, q, kq, p, a_clr, Option.toList_some, Option.toList_none, List.cons_append, List.nil_append, a_cw, List.map_cons, List.map_nil, List.sum_cons, List.sum_nil, Value.category, ne_eq, not_false_eq_true, true_and, and_true, Nat.reduceLeDiff, Nat.reduceAdd, Nat.reduceEqDiff, or_true, true_or, false_or, and_self, a_sh_fset]
theorem j132_8 {d n b : Nat} {h : aH} {post : Option Value → aH → Prop} (c : CO h n) (hb : b < n) (hn : n + 1 < 990) (sh : a_sh h b = (1, 11, 12)) : R (d + 4) 53 1661 132 92 [.ref b] [] h post = R (d + 4) 54 1664 132 103 [.ref b] [] (a_fset (hI2 (a_make h (1, 2, 3) (a_dv 2)) n (n + 1)) b 8 (.ref n)) post := by
  have b3 : ¬ b = 1003 := by omega
  have g : a_nn h = n := c.2
  have n1 : (n < 1000) = True := eq_true (by omega)
  have n3 : ¬ n = 1003 := by omega
  have bn : ¬ b = n := by omega
  have fr : a_frs [.ref b] [.ref b] h = True := eq_true (frs1 c (fun v hv r e => by simp at hv; subst hv; cases e; omega) (fun v hv r e => by simp at hv; subst hv; cases e; omega))
  have m : CO (a_make h (1, 2, 3) (a_dv 2)) (n + 1) := c.make (by omega) (dv_ref 2 (by decide))
  have w : a_sh (a_make h (1, 2, 3) (a_dv 2)) n = (1, 2, 3) := by rw [sh_make, g, if_pos rfl]
  have v : a_sh (a_make h (1, 2, 3) (a_dv 2)) b = (1, 11, 12) := by rw [sh_make, g, if_neg bn]; exact sh
  have kq := fun d post => (iI2 (d := d) (post := post) m (show n < n + 1 by omega) (by omega) w).1
  have l := iI2 (d := 0) (post := fun _ _ => True) m (show n < n + 1 by omega) (by omega) w
  have p : a_sh (hI2 (a_make h (1, 2, 3) (a_dv 2)) n (n + 1)) b = (1, 11, 12) := (l.2.2 b (by omega)).trans v
  have q : a_frs [.ref b] [.ref n, .ref b] (a_make h (1, 2, 3) (a_dv 2)) = True := eq_true (frs1 m (fun v hv r e => by simp at hv; subst hv; cases e; omega) (fun v hv r e => by simp at hv; rcases hv with hv | hv <;> (subst hv; cases e; omega)))
  simp only [f132_92, f132_93, f132_96, f132_97, f132_100, b3, g, n1, n3, fr, q, kq, p, a_clr, Option.toList_some, Option.toList_none, List.cons_append, List.nil_append, a_cw, List.map_cons, List.map_nil, List.sum_cons, List.sum_nil, Value.category, ne_eq, not_false_eq_true, true_and, and_true, Nat.reduceLeDiff, Nat.reduceAdd, Nat.reduceEqDiff, or_true, true_or, false_or, and_self, a_sh_fset]
theorem j132_9 {d n b : Nat} {h : aH} {post : Option Value → aH → Prop} (c : CO h n) (hb : b < n) (hn : n + 4 < 990) (sh : a_sh h b = (1, 11, 12)) : R (d + 4) 54 1664 132 103 [.ref b] [] h post = R (d + 4) 58 1705 132 114 [.ref b] [] (a_fset (hI10 (a_make h (1, 10, 4) (a_dv 10)) n (n + 1)) b 9 (.ref n)) post := by
  have b3 : ¬ b = 1003 := by omega
  have g : a_nn h = n := c.2
  have n1 : (n < 1000) = True := eq_true (by omega)
  have n3 : ¬ n = 1003 := by omega
  have bn : ¬ b = n := by omega
  have fr : a_frs [.ref b] [.ref b] h = True := eq_true (frs1 c (fun v hv r e => by simp at hv; subst hv; cases e; omega) (fun v hv r e => by simp at hv; subst hv; cases e; omega))
  have m : CO (a_make h (1, 10, 4) (a_dv 10)) (n + 1) := c.make (by omega) (dv_ref 10 (by decide))
  have w : a_sh (a_make h (1, 10, 4) (a_dv 10)) n = (1, 10, 4) := by rw [sh_make, g, if_pos rfl]
  have v : a_sh (a_make h (1, 10, 4) (a_dv 10)) b = (1, 11, 12) := by rw [sh_make, g, if_neg bn]; exact sh
  have kq := fun d post => (iI10 (d := d) (post := post) m (show n < n + 1 by omega) (by omega) w).1
  have l := iI10 (d := 0) (post := fun _ _ => True) m (show n < n + 1 by omega) (by omega) w
  have p : a_sh (hI10 (a_make h (1, 10, 4) (a_dv 10)) n (n + 1)) b = (1, 11, 12) := (l.2.2 b (by omega)).trans v
  have q : a_frs [.ref b] [.ref n, .ref b] (a_make h (1, 10, 4) (a_dv 10)) = True := eq_true (frs1 m (fun v hv r e => by simp at hv; subst hv; cases e; omega) (fun v hv r e => by simp at hv; rcases hv with hv | hv <;> (subst hv; cases e; omega)))
  simp only [f132_103, f132_104, f132_107, f132_108, f132_111, b3, g, n1, n3, fr, q, kq, p, a_clr, Option.toList_some, Option.toList_none, List.cons_append, List.nil_append, a_cw, List.map_cons, List.map_nil, List.sum_cons, List.sum_nil, Value.category, ne_eq, not_false_eq_true, true_and, and_true, Nat.reduceLeDiff, Nat.reduceAdd, Nat.reduceEqDiff, or_true, true_or, false_or, and_self, a_sh_fset]
theorem j132_10 {d n b : Nat} {h : aH} {post : Option Value → aH → Prop} (c : CO h n) (hb : b < n) (hn : n + 7 < 990) (sh : a_sh h b = (1, 11, 12)) : R (d + 4) 58 1705 132 114 [.ref b] [] h post = R (d + 4) 65 1787 132 125 [.ref b] [] (a_fset (hI3 (a_make h (1, 3, 10) (a_dv 3)) n (n + 1)) b 10 (.ref n)) post := by
  have b3 : ¬ b = 1003 := by omega
  have g : a_nn h = n := c.2
  have n1 : (n < 1000) = True := eq_true (by omega)
  have n3 : ¬ n = 1003 := by omega
  have bn : ¬ b = n := by omega
  have fr : a_frs [.ref b] [.ref b] h = True := eq_true (frs1 c (fun v hv r e => by simp at hv; subst hv; cases e; omega) (fun v hv r e => by simp at hv; subst hv; cases e; omega))
  have m : CO (a_make h (1, 3, 10) (a_dv 3)) (n + 1) := c.make (by omega) (dv_ref 3 (by decide))
  have w : a_sh (a_make h (1, 3, 10) (a_dv 3)) n = (1, 3, 10) := by rw [sh_make, g, if_pos rfl]
  have v : a_sh (a_make h (1, 3, 10) (a_dv 3)) b = (1, 11, 12) := by rw [sh_make, g, if_neg bn]; exact sh
  have kq := fun d post => (iI3 (d := d) (post := post) m (show n < n + 1 by omega) (by omega) w).1
  have l := iI3 (d := 0) (post := fun _ _ => True) m (show n < n + 1 by omega) (by omega) w
  have p : a_sh (hI3 (a_make h (1, 3, 10) (a_dv 3)) n (n + 1)) b = (1, 11, 12) := (l.2.2 b (by omega)).trans v
  have q : a_frs [.ref b] [.ref n, .ref b] (a_make h (1, 3, 10) (a_dv 3)) = True := eq_true (frs1 m (fun v hv r e => by simp at hv; subst hv; cases e; omega) (fun v hv r e => by simp at hv; rcases hv with hv | hv <;> (subst hv; cases e; omega)))
  simp only [f132_114, f132_115, f132_118, f132_119, f132_122, b3, g, n1, n3, fr, q, kq, p, a_clr, Option.toList_some, Option.toList_none, List.cons_append, List.nil_append, a_cw, List.map_cons, List.map_nil, List.sum_cons, List.sum_nil, Value.category, ne_eq, not_false_eq_true, true_and, and_true, Nat.reduceLeDiff, Nat.reduceAdd, Nat.reduceEqDiff, or_true, true_or, false_or, and_self, a_sh_fset]
theorem j132_11 {d n b : Nat} {h : aH} {post : Option Value → aH → Prop} (c : CO h n) (hb : b < n) (hn : n + 7 < 990) (sh : a_sh h b = (1, 11, 12)) : R (d + 4) 65 1787 132 125 [.ref b] [] h post = R (d + 4) 72 1869 132 136 [.ref b] [] (a_fset (hI3 (a_make h (1, 3, 10) (a_dv 3)) n (n + 1)) b 11 (.ref n)) post := by
  have b3 : ¬ b = 1003 := by omega
  have g : a_nn h = n := c.2
  have n1 : (n < 1000) = True := eq_true (by omega)
  have n3 : ¬ n = 1003 := by omega
  have bn : ¬ b = n := by omega
  have fr : a_frs [.ref b] [.ref b] h = True := eq_true (frs1 c (fun v hv r e => by simp at hv; subst hv; cases e; omega) (fun v hv r e => by simp at hv; subst hv; cases e; omega))
  have m : CO (a_make h (1, 3, 10) (a_dv 3)) (n + 1) := c.make (by omega) (dv_ref 3 (by decide))
  have w : a_sh (a_make h (1, 3, 10) (a_dv 3)) n = (1, 3, 10) := by rw [sh_make, g, if_pos rfl]
  have v : a_sh (a_make h (1, 3, 10) (a_dv 3)) b = (1, 11, 12) := by rw [sh_make, g, if_neg bn]; exact sh
  have kq := fun d post => (iI3 (d := d) (post := post) m (show n < n + 1 by omega) (by omega) w).1
  have l := iI3 (d := 0) (post := fun _ _ => True) m (show n < n + 1 by omega) (by omega) w
  have p : a_sh (hI3 (a_make h (1, 3, 10) (a_dv 3)) n (n + 1)) b = (1, 11, 12) := (l.2.2 b (by omega)).trans v
  have q : a_frs [.ref b] [.ref n, .ref b] (a_make h (1, 3, 10) (a_dv 3)) = True := eq_true (frs1 m (fun v hv r e => by simp at hv; subst hv; cases e; omega) (fun v hv r e => by simp at hv; rcases hv with hv | hv <;> (subst hv; cases e; omega)))
  simp only [f132_125, f132_126, f132_129, f132_130, f132_133, b3, g, n1, n3, fr, q, kq, p, a_clr, Option.toList_some, Option.toList_none, List.cons_append, List.nil_append, a_cw, List.map_cons, List.map_nil, List.sum_cons, List.sum_nil, Value.category, ne_eq, not_false_eq_true, true_and, and_true, Nat.reduceLeDiff, Nat.reduceAdd, Nat.reduceEqDiff, or_true, true_or, false_or, and_self, a_sh_fset]
set_option maxHeartbeats 4000000 in
theorem iI11 {d n b : Nat} {h : aH} {post : Option Value → aH → Prop} (c : CO h n) (hb : b < n) (hn : n + 72 < 990) (sh : a_sh h b = (1, 11, 12)) : R (d + 4) 0 0 132 0 [.ref b] [] h post = post none (hI11 h b n) ∧ CO (hI11 h b n) (n + 72) ∧ ∀ a, a < n → a_sh (hI11 h b n) a = a_sh h a := by
  have hb3 : ¬ b = 1003 := by omega
  have hb_0 : b < n := by omega
  have hn_0 : n + 2 < 990 := by omega
  have hb_1 : b < n + 2 := by omega
  have hn_1 : n + 2 + 11 < 990 := by omega
  have hb_2 : b < n + 13 := by omega
  have hn_2 : n + 13 + 5 < 990 := by omega
  have hb_3 : b < n + 18 := by omega
  have hn_3 : n + 18 + 5 < 990 := by omega
  have hb_4 : b < n + 23 := by omega
  have hn_4 : n + 23 + 21 < 990 := by omega
  have hb_5 : b < n + 44 := by omega
  have hn_5 : n + 44 + 2 < 990 := by omega
  have hb_6 : b < n + 46 := by omega
  have hn_6 : n + 46 + 3 < 990 := by omega
  have hb_7 : b < n + 49 := by omega
  have hn_7 : n + 49 + 4 < 990 := by omega
  have hb_8 : b < n + 53 := by omega
  have hn_8 : n + 53 + 1 < 990 := by omega
  have hb_9 : b < n + 54 := by omega
  have hn_9 : n + 54 + 4 < 990 := by omega
  have hb_10 : b < n + 58 := by omega
  have hn_10 : n + 58 + 7 < 990 := by omega
  have hb_11 : b < n + 65 := by omega
  have hn_11 : n + 65 + 7 < 990 := by omega
  have z0 : CO h n := c
  have y0 : ∀ a, a < n → a_sh h a = a_sh h a := fun _ _ => rfl
  have g0 : a_nn h = n := z0.2
  have m0 : CO (a_make h (1, 7, 7) (a_dv 7)) (n + 1) := z0.make (by omega) (dv_ref 7 (by decide))
  have w0 : a_sh (a_make h (1, 7, 7) (a_dv 7)) n = (1, 7, 7) := by rw [sh_make, g0, if_pos rfl]
  have v0 : ∀ a, a < n → a_sh (a_make h (1, 7, 7) (a_dv 7)) a = a_sh h a := fun a ha => (by rw [sh_make, g0, if_neg (by omega)] : a_sh (a_make h (1, 7, 7) (a_dv 7)) a = a_sh h a).trans (y0 a ha)
  have z1 : CO (a_fset (hI7 (a_make h (1, 7, 7) (a_dv 7)) n (n + 1)) b 0 (.ref n)) (n + 2) := (iI7 (d := 0) (post := fun _ _ => True) m0 (show n < n + 1 by omega) (by omega) w0).2.1.fset (by omega)
  have y1 : ∀ a, a < n → a_sh (a_fset (hI7 (a_make h (1, 7, 7) (a_dv 7)) n (n + 1)) b 0 (.ref n)) a = a_sh h a := fun a ha => ((iI7 (d := 0) (post := fun _ _ => True) m0 (show n < n + 1 by omega) (by omega) w0).2.2 a (by omega)).trans (v0 a ha)
  have g1 : a_nn (a_fset (hI7 (a_make h (1, 7, 7) (a_dv 7)) n (n + 1)) b 0 (.ref n)) = (n + 2) := z1.2
  have m1 : CO (a_make (a_fset (hI7 (a_make h (1, 7, 7) (a_dv 7)) n (n + 1)) b 0 (.ref n)) (1, 9, 12) (a_dv 9)) (n + 3) := z1.make (by omega) (dv_ref 9 (by decide))
  have w1 : a_sh (a_make (a_fset (hI7 (a_make h (1, 7, 7) (a_dv 7)) n (n + 1)) b 0 (.ref n)) (1, 9, 12) (a_dv 9)) (n + 2) = (1, 9, 12) := by rw [sh_make, g1, if_pos rfl]
  have v1 : ∀ a, a < n → a_sh (a_make (a_fset (hI7 (a_make h (1, 7, 7) (a_dv 7)) n (n + 1)) b 0 (.ref n)) (1, 9, 12) (a_dv 9)) a = a_sh h a := fun a ha => (by rw [sh_make, g1, if_neg (by omega)] : a_sh (a_make (a_fset (hI7 (a_make h (1, 7, 7) (a_dv 7)) n (n + 1)) b 0 (.ref n)) (1, 9, 12) (a_dv 9)) a = a_sh (a_fset (hI7 (a_make h (1, 7, 7) (a_dv 7)) n (n + 1)) b 0 (.ref n)) a).trans (y1 a ha)
  have z2 : CO (a_fset (hI9 (a_make (a_fset (hI7 (a_make h (1, 7, 7) (a_dv 7)) n (n + 1)) b 0 (.ref n)) (1, 9, 12) (a_dv 9)) (n + 2) (n + 3)) b 1 (.ref (n + 2))) (n + 13) := (iI9 (d := 0) (post := fun _ _ => True) m1 (show (n + 2) < n + 3 by omega) (by omega) w1).2.1.fset (by omega)
  have y2 : ∀ a, a < n → a_sh (a_fset (hI9 (a_make (a_fset (hI7 (a_make h (1, 7, 7) (a_dv 7)) n (n + 1)) b 0 (.ref n)) (1, 9, 12) (a_dv 9)) (n + 2) (n + 3)) b 1 (.ref (n + 2))) a = a_sh h a := fun a ha => ((iI9 (d := 0) (post := fun _ _ => True) m1 (show (n + 2) < n + 3 by omega) (by omega) w1).2.2 a (by omega)).trans (v1 a ha)
  have g2 : a_nn (a_fset (hI9 (a_make (a_fset (hI7 (a_make h (1, 7, 7) (a_dv 7)) n (n + 1)) b 0 (.ref n)) (1, 9, 12) (a_dv 9)) (n + 2) (n + 3)) b 1 (.ref (n + 2))) = (n + 13) := z2.2
  have m2 : CO (a_make (a_fset (hI9 (a_make (a_fset (hI7 (a_make h (1, 7, 7) (a_dv 7)) n (n + 1)) b 0 (.ref n)) (1, 9, 12) (a_dv 9)) (n + 2) (n + 3)) b 1 (.ref (n + 2))) (1, 5, 5) (a_dv 5)) (n + 14) := z2.make (by omega) (dv_ref 5 (by decide))
  have w2 : a_sh (a_make (a_fset (hI9 (a_make (a_fset (hI7 (a_make h (1, 7, 7) (a_dv 7)) n (n + 1)) b 0 (.ref n)) (1, 9, 12) (a_dv 9)) (n + 2) (n + 3)) b 1 (.ref (n + 2))) (1, 5, 5) (a_dv 5)) (n + 13) = (1, 5, 5) := by rw [sh_make, g2, if_pos rfl]
  have v2 : ∀ a, a < n → a_sh (a_make (a_fset (hI9 (a_make (a_fset (hI7 (a_make h (1, 7, 7) (a_dv 7)) n (n + 1)) b 0 (.ref n)) (1, 9, 12) (a_dv 9)) (n + 2) (n + 3)) b 1 (.ref (n + 2))) (1, 5, 5) (a_dv 5)) a = a_sh h a := fun a ha => (by rw [sh_make, g2, if_neg (by omega)] : a_sh (a_make (a_fset (hI9 (a_make (a_fset (hI7 (a_make h (1, 7, 7) (a_dv 7)) n (n + 1)) b 0 (.ref n)) (1, 9, 12) (a_dv 9)) (n + 2) (n + 3)) b 1 (.ref (n + 2))) (1, 5, 5) (a_dv 5)) a = a_sh (a_fset (hI9 (a_make (a_fset (hI7 (a_make h (1, 7, 7) (a_dv 7)) n (n + 1)) b 0 (.ref n)) (1, 9, 12) (a_dv 9)) (n + 2) (n + 3)) b 1 (.ref (n + 2))) a).trans (y2 a ha)
  have z3 : CO (a_fset (hI5 (a_make (a_fset (hI9 (a_make (a_fset (hI7 (a_make h (1, 7, 7) (a_dv 7)) n (n + 1)) b 0 (.ref n)) (1, 9, 12) (a_dv 9)) (n + 2) (n + 3)) b 1 (.ref (n + 2))) (1, 5, 5) (a_dv 5)) (n + 13) (n + 14)) b 2 (.ref (n + 13))) (n + 18) := (iI5 (d := 0) (post := fun _ _ => True) m2 (show (n + 13) < n + 14 by omega) (by omega) w2).2.1.fset (by omega)
  have y3 : ∀ a, a < n → a_sh (a_fset (hI5 (a_make (a_fset (hI9 (a_make (a_fset (hI7 (a_make h (1, 7, 7) (a_dv 7)) n (n + 1)) b 0 (.ref n)) (1, 9, 12) (a_dv 9)) (n + 2) (n + 3)) b 1 (.ref (n + 2))) (1, 5, 5) (a_dv 5)) (n + 13) (n + 14)) b 2 (.ref (n + 13))) a = a_sh h a := fun a ha => ((iI5 (d := 0) (post := fun _ _ => True) m2 (show (n + 13) < n + 14 by omega) (by omega) w2).2.2 a (by omega)).trans (v2 a ha)
  have g3 : a_nn (a_fset (hI5 (a_make (a_fset (hI9 (a_make (a_fset (hI7 (a_make h (1, 7, 7) (a_dv 7)) n (n + 1)) b 0 (.ref n)) (1, 9, 12) (a_dv 9)) (n + 2) (n + 3)) b 1 (.ref (n + 2))) (1, 5, 5) (a_dv 5)) (n + 13) (n + 14)) b 2 (.ref (n + 13))) = (n + 18) := z3.2
  have m3 : CO (a_make (a_fset (hI5 (a_make (a_fset (hI9 (a_make (a_fset (hI7 (a_make h (1, 7, 7) (a_dv 7)) n (n + 1)) b 0 (.ref n)) (1, 9, 12) (a_dv 9)) (n + 2) (n + 3)) b 1 (.ref (n + 2))) (1, 5, 5) (a_dv 5)) (n + 13) (n + 14)) b 2 (.ref (n + 13))) (1, 5, 5) (a_dv 5)) (n + 19) := z3.make (by omega) (dv_ref 5 (by decide))
  have w3 : a_sh (a_make (a_fset (hI5 (a_make (a_fset (hI9 (a_make (a_fset (hI7 (a_make h (1, 7, 7) (a_dv 7)) n (n + 1)) b 0 (.ref n)) (1, 9, 12) (a_dv 9)) (n + 2) (n + 3)) b 1 (.ref (n + 2))) (1, 5, 5) (a_dv 5)) (n + 13) (n + 14)) b 2 (.ref (n + 13))) (1, 5, 5) (a_dv 5)) (n + 18) = (1, 5, 5) := by rw [sh_make, g3, if_pos rfl]
  have v3 : ∀ a, a < n → a_sh (a_make (a_fset (hI5 (a_make (a_fset (hI9 (a_make (a_fset (hI7 (a_make h (1, 7, 7) (a_dv 7)) n (n + 1)) b 0 (.ref n)) (1, 9, 12) (a_dv 9)) (n + 2) (n + 3)) b 1 (.ref (n + 2))) (1, 5, 5) (a_dv 5)) (n + 13) (n + 14)) b 2 (.ref (n + 13))) (1, 5, 5) (a_dv 5)) a = a_sh h a := fun a ha => (by rw [sh_make, g3, if_neg (by omega)] : a_sh (a_make (a_fset (hI5 (a_make (a_fset (hI9 (a_make (a_fset (hI7 (a_make h (1, 7, 7) (a_dv 7)) n (n + 1)) b 0 (.ref n)) (1, 9, 12) (a_dv 9)) (n + 2) (n + 3)) b 1 (.ref (n + 2))) (1, 5, 5) (a_dv 5)) (n + 13) (n + 14)) b 2 (.ref (n + 13))) (1, 5, 5) (a_dv 5)) a = a_sh (a_fset (hI5 (a_make (a_fset (hI9 (a_make (a_fset (hI7 (a_make h (1, 7, 7) (a_dv 7)) n (n + 1)) b 0 (.ref n)) (1, 9, 12) (a_dv 9)) (n + 2) (n + 3)) b 1 (.ref (n + 2))) (1, 5, 5) (a_dv 5)) (n + 13) (n + 14)) b 2 (.ref (n + 13))) a).trans (y3 a ha)
  have z4 : CO (a_fset (hI5 (a_make (a_fset (hI5 (a_make (a_fset (hI9 (a_make (a_fset (hI7 (a_make h (1, 7, 7) (a_dv 7)) n (n + 1)) b 0 (.ref n)) (1, 9, 12) (a_dv 9)) (n + 2) (n + 3)) b 1 (.ref (n + 2))) (1, 5, 5) (a_dv 5)) (n + 13) (n + 14)) b 2 (.ref (n + 13))) (1, 5, 5) (a_dv 5)) (n + 18) (n + 19)) b 3 (.ref (n + 18))) (n + 23) := (iI5 (d := 0) (post := fun _ _ => True) m3 (show (n + 18) < n + 19 by omega) (by omega) w3).2.1.fset (by omega)
  have y4 : ∀ a, a < n → a_sh (a_fset (hI5 (a_make (a_fset (hI5 (a_make (a_fset (hI9 (a_make (a_fset (hI7 (a_make h (1, 7, 7) (a_dv 7)) n (n + 1)) b 0 (.ref n)) (1, 9, 12) (a_dv 9)) (n + 2) (n + 3)) b 1 (.ref (n + 2))) (1, 5, 5) (a_dv 5)) (n + 13) (n + 14)) b 2 (.ref (n + 13))) (1, 5, 5) (a_dv 5)) (n + 18) (n + 19)) b 3 (.ref (n + 18))) a = a_sh h a := fun a ha => ((iI5 (d := 0) (post := fun _ _ => True) m3 (show (n + 18) < n + 19 by omega) (by omega) w3).2.2 a (by omega)).trans (v3 a ha)
  have g4 : a_nn (a_fset (hI5 (a_make (a_fset (hI5 (a_make (a_fset (hI9 (a_make (a_fset (hI7 (a_make h (1, 7, 7) (a_dv 7)) n (n + 1)) b 0 (.ref n)) (1, 9, 12) (a_dv 9)) (n + 2) (n + 3)) b 1 (.ref (n + 2))) (1, 5, 5) (a_dv 5)) (n + 13) (n + 14)) b 2 (.ref (n + 13))) (1, 5, 5) (a_dv 5)) (n + 18) (n + 19)) b 3 (.ref (n + 18))) = (n + 23) := z4.2
  have m4 : CO (a_make (a_fset (hI5 (a_make (a_fset (hI5 (a_make (a_fset (hI9 (a_make (a_fset (hI7 (a_make h (1, 7, 7) (a_dv 7)) n (n + 1)) b 0 (.ref n)) (1, 9, 12) (a_dv 9)) (n + 2) (n + 3)) b 1 (.ref (n + 2))) (1, 5, 5) (a_dv 5)) (n + 13) (n + 14)) b 2 (.ref (n + 13))) (1, 5, 5) (a_dv 5)) (n + 18) (n + 19)) b 3 (.ref (n + 18))) (1, 8, 6) (a_dv 8)) (n + 24) := z4.make (by omega) (dv_ref 8 (by decide))
  have w4 : a_sh (a_make (a_fset (hI5 (a_make (a_fset (hI5 (a_make (a_fset (hI9 (a_make (a_fset (hI7 (a_make h (1, 7, 7) (a_dv 7)) n (n + 1)) b 0 (.ref n)) (1, 9, 12) (a_dv 9)) (n + 2) (n + 3)) b 1 (.ref (n + 2))) (1, 5, 5) (a_dv 5)) (n + 13) (n + 14)) b 2 (.ref (n + 13))) (1, 5, 5) (a_dv 5)) (n + 18) (n + 19)) b 3 (.ref (n + 18))) (1, 8, 6) (a_dv 8)) (n + 23) = (1, 8, 6) := by rw [sh_make, g4, if_pos rfl]
  have v4 : ∀ a, a < n → a_sh (a_make (a_fset (hI5 (a_make (a_fset (hI5 (a_make (a_fset (hI9 (a_make (a_fset (hI7 (a_make h (1, 7, 7) (a_dv 7)) n (n + 1)) b 0 (.ref n)) (1, 9, 12) (a_dv 9)) (n + 2) (n + 3)) b 1 (.ref (n + 2))) (1, 5, 5) (a_dv 5)) (n + 13) (n + 14)) b 2 (.ref (n + 13))) (1, 5, 5) (a_dv 5)) (n + 18) (n + 19)) b 3 (.ref (n + 18))) (1, 8, 6) (a_dv 8)) a = a_sh h a := fun a ha => (by rw [sh_make, g4, if_neg (by omega)] : a_sh (a_make (a_fset (hI5 (a_make (a_fset (hI5 (a_make (a_fset (hI9 (a_make (a_fset (hI7 (a_make h (1, 7, 7) (a_dv 7)) n (n + 1)) b 0 (.ref n)) (1, 9, 12) (a_dv 9)) (n + 2) (n + 3)) b 1 (.ref (n + 2))) (1, 5, 5) (a_dv 5)) (n + 13) (n + 14)) b 2 (.ref (n + 13))) (1, 5, 5) (a_dv 5)) (n + 18) (n + 19)) b 3 (.ref (n + 18))) (1, 8, 6) (a_dv 8)) a = a_sh (a_fset (hI5 (a_make (a_fset (hI5 (a_make (a_fset (hI9 (a_make (a_fset (hI7 (a_make h (1, 7, 7) (a_dv 7)) n (n + 1)) b 0 (.ref n)) (1, 9, 12) (a_dv 9)) (n + 2) (n + 3)) b 1 (.ref (n + 2))) (1, 5, 5) (a_dv 5)) (n + 13) (n + 14)) b 2 (.ref (n + 13))) (1, 5, 5) (a_dv 5)) (n + 18) (n + 19)) b 3 (.ref (n + 18))) a).trans (y4 a ha)
  have z5 : CO (a_fset (hI8 (a_make (a_fset (hI5 (a_make (a_fset (hI5 (a_make (a_fset (hI9 (a_make (a_fset (hI7 (a_make h (1, 7, 7) (a_dv 7)) n (n + 1)) b 0 (.ref n)) (1, 9, 12) (a_dv 9)) (n + 2) (n + 3)) b 1 (.ref (n + 2))) (1, 5, 5) (a_dv 5)) (n + 13) (n + 14)) b 2 (.ref (n + 13))) (1, 5, 5) (a_dv 5)) (n + 18) (n + 19)) b 3 (.ref (n + 18))) (1, 8, 6) (a_dv 8)) (n + 23) (n + 24)) b 4 (.ref (n + 23))) (n + 44) := (iI8 (d := 0) (post := fun _ _ => True) m4 (show (n + 23) < n + 24 by omega) (by omega) w4).2.1.fset (by omega)
  have y5 : ∀ a, a < n → a_sh (a_fset (hI8 (a_make (a_fset (hI5 (a_make (a_fset (hI5 (a_make (a_fset (hI9 (a_make (a_fset (hI7 (a_make h (1, 7, 7) (a_dv 7)) n (n + 1)) b 0 (.ref n)) (1, 9, 12) (a_dv 9)) (n + 2) (n + 3)) b 1 (.ref (n + 2))) (1, 5, 5) (a_dv 5)) (n + 13) (n + 14)) b 2 (.ref (n + 13))) (1, 5, 5) (a_dv 5)) (n + 18) (n + 19)) b 3 (.ref (n + 18))) (1, 8, 6) (a_dv 8)) (n + 23) (n + 24)) b 4 (.ref (n + 23))) a = a_sh h a := fun a ha => ((iI8 (d := 0) (post := fun _ _ => True) m4 (show (n + 23) < n + 24 by omega) (by omega) w4).2.2 a (by omega)).trans (v4 a ha)
  have g5 : a_nn (a_fset (hI8 (a_make (a_fset (hI5 (a_make (a_fset (hI5 (a_make (a_fset (hI9 (a_make (a_fset (hI7 (a_make h (1, 7, 7) (a_dv 7)) n (n + 1)) b 0 (.ref n)) (1, 9, 12) (a_dv 9)) (n + 2) (n + 3)) b 1 (.ref (n + 2))) (1, 5, 5) (a_dv 5)) (n + 13) (n + 14)) b 2 (.ref (n + 13))) (1, 5, 5) (a_dv 5)) (n + 18) (n + 19)) b 3 (.ref (n + 18))) (1, 8, 6) (a_dv 8)) (n + 23) (n + 24)) b 4 (.ref (n + 23))) = (n + 44) := z5.2
  have m5 : CO (a_make (a_fset (hI8 (a_make (a_fset (hI5 (a_make (a_fset (hI5 (a_make (a_fset (hI9 (a_make (a_fset (hI7 (a_make h (1, 7, 7) (a_dv 7)) n (n + 1)) b 0 (.ref n)) (1, 9, 12) (a_dv 9)) (n + 2) (n + 3)) b 1 (.ref (n + 2))) (1, 5, 5) (a_dv 5)) (n + 13) (n + 14)) b 2 (.ref (n + 13))) (1, 5, 5) (a_dv 5)) (n + 18) (n + 19)) b 3 (.ref (n + 18))) (1, 8, 6) (a_dv 8)) (n + 23) (n + 24)) b 4 (.ref (n + 23))) (1, 1, 1) (a_dv 1)) (n + 45) := z5.make (by omega) (dv_ref 1 (by decide))
  have w5 : a_sh (a_make (a_fset (hI8 (a_make (a_fset (hI5 (a_make (a_fset (hI5 (a_make (a_fset (hI9 (a_make (a_fset (hI7 (a_make h (1, 7, 7) (a_dv 7)) n (n + 1)) b 0 (.ref n)) (1, 9, 12) (a_dv 9)) (n + 2) (n + 3)) b 1 (.ref (n + 2))) (1, 5, 5) (a_dv 5)) (n + 13) (n + 14)) b 2 (.ref (n + 13))) (1, 5, 5) (a_dv 5)) (n + 18) (n + 19)) b 3 (.ref (n + 18))) (1, 8, 6) (a_dv 8)) (n + 23) (n + 24)) b 4 (.ref (n + 23))) (1, 1, 1) (a_dv 1)) (n + 44) = (1, 1, 1) := by rw [sh_make, g5, if_pos rfl]
  have v5 : ∀ a, a < n → a_sh (a_make (a_fset (hI8 (a_make (a_fset (hI5 (a_make (a_fset (hI5 (a_make (a_fset (hI9 (a_make (a_fset (hI7 (a_make h (1, 7, 7) (a_dv 7)) n (n + 1)) b 0 (.ref n)) (1, 9, 12) (a_dv 9)) (n + 2) (n + 3)) b 1 (.ref (n + 2))) (1, 5, 5) (a_dv 5)) (n + 13) (n + 14)) b 2 (.ref (n + 13))) (1, 5, 5) (a_dv 5)) (n + 18) (n + 19)) b 3 (.ref (n + 18))) (1, 8, 6) (a_dv 8)) (n + 23) (n + 24)) b 4 (.ref (n + 23))) (1, 1, 1) (a_dv 1)) a = a_sh h a := fun a ha => (by rw [sh_make, g5, if_neg (by omega)] : a_sh (a_make (a_fset (hI8 (a_make (a_fset (hI5 (a_make (a_fset (hI5 (a_make (a_fset (hI9 (a_make (a_fset (hI7 (a_make h (1, 7, 7) (a_dv 7)) n (n + 1)) b 0 (.ref n)) (1, 9, 12) (a_dv 9)) (n + 2) (n + 3)) b 1 (.ref (n + 2))) (1, 5, 5) (a_dv 5)) (n + 13) (n + 14)) b 2 (.ref (n + 13))) (1, 5, 5) (a_dv 5)) (n + 18) (n + 19)) b 3 (.ref (n + 18))) (1, 8, 6) (a_dv 8)) (n + 23) (n + 24)) b 4 (.ref (n + 23))) (1, 1, 1) (a_dv 1)) a = a_sh (a_fset (hI8 (a_make (a_fset (hI5 (a_make (a_fset (hI5 (a_make (a_fset (hI9 (a_make (a_fset (hI7 (a_make h (1, 7, 7) (a_dv 7)) n (n + 1)) b 0 (.ref n)) (1, 9, 12) (a_dv 9)) (n + 2) (n + 3)) b 1 (.ref (n + 2))) (1, 5, 5) (a_dv 5)) (n + 13) (n + 14)) b 2 (.ref (n + 13))) (1, 5, 5) (a_dv 5)) (n + 18) (n + 19)) b 3 (.ref (n + 18))) (1, 8, 6) (a_dv 8)) (n + 23) (n + 24)) b 4 (.ref (n + 23))) a).trans (y5 a ha)
  have z6 : CO (a_fset (hI1 (a_make (a_fset (hI8 (a_make (a_fset (hI5 (a_make (a_fset (hI5 (a_make (a_fset (hI9 (a_make (a_fset (hI7 (a_make h (1, 7, 7) (a_dv 7)) n (n + 1)) b 0 (.ref n)) (1, 9, 12) (a_dv 9)) (n + 2) (n + 3)) b 1 (.ref (n + 2))) (1, 5, 5) (a_dv 5)) (n + 13) (n + 14)) b 2 (.ref (n + 13))) (1, 5, 5) (a_dv 5)) (n + 18) (n + 19)) b 3 (.ref (n + 18))) (1, 8, 6) (a_dv 8)) (n + 23) (n + 24)) b 4 (.ref (n + 23))) (1, 1, 1) (a_dv 1)) (n + 44) (n + 45)) b 5 (.ref (n + 44))) (n + 46) := (iI1 (d := 0) (post := fun _ _ => True) m5 (show (n + 44) < n + 45 by omega) (by omega) w5).2.1.fset (by omega)
  have y6 : ∀ a, a < n → a_sh (a_fset (hI1 (a_make (a_fset (hI8 (a_make (a_fset (hI5 (a_make (a_fset (hI5 (a_make (a_fset (hI9 (a_make (a_fset (hI7 (a_make h (1, 7, 7) (a_dv 7)) n (n + 1)) b 0 (.ref n)) (1, 9, 12) (a_dv 9)) (n + 2) (n + 3)) b 1 (.ref (n + 2))) (1, 5, 5) (a_dv 5)) (n + 13) (n + 14)) b 2 (.ref (n + 13))) (1, 5, 5) (a_dv 5)) (n + 18) (n + 19)) b 3 (.ref (n + 18))) (1, 8, 6) (a_dv 8)) (n + 23) (n + 24)) b 4 (.ref (n + 23))) (1, 1, 1) (a_dv 1)) (n + 44) (n + 45)) b 5 (.ref (n + 44))) a = a_sh h a := fun a ha => ((iI1 (d := 0) (post := fun _ _ => True) m5 (show (n + 44) < n + 45 by omega) (by omega) w5).2.2 a (by omega)).trans (v5 a ha)
  have g6 : a_nn (a_fset (hI1 (a_make (a_fset (hI8 (a_make (a_fset (hI5 (a_make (a_fset (hI5 (a_make (a_fset (hI9 (a_make (a_fset (hI7 (a_make h (1, 7, 7) (a_dv 7)) n (n + 1)) b 0 (.ref n)) (1, 9, 12) (a_dv 9)) (n + 2) (n + 3)) b 1 (.ref (n + 2))) (1, 5, 5) (a_dv 5)) (n + 13) (n + 14)) b 2 (.ref (n + 13))) (1, 5, 5) (a_dv 5)) (n + 18) (n + 19)) b 3 (.ref (n + 18))) (1, 8, 6) (a_dv 8)) (n + 23) (n + 24)) b 4 (.ref (n + 23))) (1, 1, 1) (a_dv 1)) (n + 44) (n + 45)) b 5 (.ref (n + 44))) = (n + 46) := z6.2
  have m6 : CO (a_make (a_fset (hI1 (a_make (a_fset (hI8 (a_make (a_fset (hI5 (a_make (a_fset (hI5 (a_make (a_fset (hI9 (a_make (a_fset (hI7 (a_make h (1, 7, 7) (a_dv 7)) n (n + 1)) b 0 (.ref n)) (1, 9, 12) (a_dv 9)) (n + 2) (n + 3)) b 1 (.ref (n + 2))) (1, 5, 5) (a_dv 5)) (n + 13) (n + 14)) b 2 (.ref (n + 13))) (1, 5, 5) (a_dv 5)) (n + 18) (n + 19)) b 3 (.ref (n + 18))) (1, 8, 6) (a_dv 8)) (n + 23) (n + 24)) b 4 (.ref (n + 23))) (1, 1, 1) (a_dv 1)) (n + 44) (n + 45)) b 5 (.ref (n + 44))) (1, 6, 2) (a_dv 6)) (n + 47) := z6.make (by omega) (dv_ref 6 (by decide))
  have w6 : a_sh (a_make (a_fset (hI1 (a_make (a_fset (hI8 (a_make (a_fset (hI5 (a_make (a_fset (hI5 (a_make (a_fset (hI9 (a_make (a_fset (hI7 (a_make h (1, 7, 7) (a_dv 7)) n (n + 1)) b 0 (.ref n)) (1, 9, 12) (a_dv 9)) (n + 2) (n + 3)) b 1 (.ref (n + 2))) (1, 5, 5) (a_dv 5)) (n + 13) (n + 14)) b 2 (.ref (n + 13))) (1, 5, 5) (a_dv 5)) (n + 18) (n + 19)) b 3 (.ref (n + 18))) (1, 8, 6) (a_dv 8)) (n + 23) (n + 24)) b 4 (.ref (n + 23))) (1, 1, 1) (a_dv 1)) (n + 44) (n + 45)) b 5 (.ref (n + 44))) (1, 6, 2) (a_dv 6)) (n + 46) = (1, 6, 2) := by rw [sh_make, g6, if_pos rfl]
  have v6 : ∀ a, a < n → a_sh (a_make (a_fset (hI1 (a_make (a_fset (hI8 (a_make (a_fset (hI5 (a_make (a_fset (hI5 (a_make (a_fset (hI9 (a_make (a_fset (hI7 (a_make h (1, 7, 7) (a_dv 7)) n (n + 1)) b 0 (.ref n)) (1, 9, 12) (a_dv 9)) (n + 2) (n + 3)) b 1 (.ref (n + 2))) (1, 5, 5) (a_dv 5)) (n + 13) (n + 14)) b 2 (.ref (n + 13))) (1, 5, 5) (a_dv 5)) (n + 18) (n + 19)) b 3 (.ref (n + 18))) (1, 8, 6) (a_dv 8)) (n + 23) (n + 24)) b 4 (.ref (n + 23))) (1, 1, 1) (a_dv 1)) (n + 44) (n + 45)) b 5 (.ref (n + 44))) (1, 6, 2) (a_dv 6)) a = a_sh h a := fun a ha => (by rw [sh_make, g6, if_neg (by omega)] : a_sh (a_make (a_fset (hI1 (a_make (a_fset (hI8 (a_make (a_fset (hI5 (a_make (a_fset (hI5 (a_make (a_fset (hI9 (a_make (a_fset (hI7 (a_make h (1, 7, 7) (a_dv 7)) n (n + 1)) b 0 (.ref n)) (1, 9, 12) (a_dv 9)) (n + 2) (n + 3)) b 1 (.ref (n + 2))) (1, 5, 5) (a_dv 5)) (n + 13) (n + 14)) b 2 (.ref (n + 13))) (1, 5, 5) (a_dv 5)) (n + 18) (n + 19)) b 3 (.ref (n + 18))) (1, 8, 6) (a_dv 8)) (n + 23) (n + 24)) b 4 (.ref (n + 23))) (1, 1, 1) (a_dv 1)) (n + 44) (n + 45)) b 5 (.ref (n + 44))) (1, 6, 2) (a_dv 6)) a = a_sh (a_fset (hI1 (a_make (a_fset (hI8 (a_make (a_fset (hI5 (a_make (a_fset (hI5 (a_make (a_fset (hI9 (a_make (a_fset (hI7 (a_make h (1, 7, 7) (a_dv 7)) n (n + 1)) b 0 (.ref n)) (1, 9, 12) (a_dv 9)) (n + 2) (n + 3)) b 1 (.ref (n + 2))) (1, 5, 5) (a_dv 5)) (n + 13) (n + 14)) b 2 (.ref (n + 13))) (1, 5, 5) (a_dv 5)) (n + 18) (n + 19)) b 3 (.ref (n + 18))) (1, 8, 6) (a_dv 8)) (n + 23) (n + 24)) b 4 (.ref (n + 23))) (1, 1, 1) (a_dv 1)) (n + 44) (n + 45)) b 5 (.ref (n + 44))) a).trans (y6 a ha)
  have z7 : CO (a_fset (hI6 (a_make (a_fset (hI1 (a_make (a_fset (hI8 (a_make (a_fset (hI5 (a_make (a_fset (hI5 (a_make (a_fset (hI9 (a_make (a_fset (hI7 (a_make h (1, 7, 7) (a_dv 7)) n (n + 1)) b 0 (.ref n)) (1, 9, 12) (a_dv 9)) (n + 2) (n + 3)) b 1 (.ref (n + 2))) (1, 5, 5) (a_dv 5)) (n + 13) (n + 14)) b 2 (.ref (n + 13))) (1, 5, 5) (a_dv 5)) (n + 18) (n + 19)) b 3 (.ref (n + 18))) (1, 8, 6) (a_dv 8)) (n + 23) (n + 24)) b 4 (.ref (n + 23))) (1, 1, 1) (a_dv 1)) (n + 44) (n + 45)) b 5 (.ref (n + 44))) (1, 6, 2) (a_dv 6)) (n + 46) (n + 47)) b 6 (.ref (n + 46))) (n + 49) := (iI6 (d := 0) (post := fun _ _ => True) m6 (show (n + 46) < n + 47 by omega) (by omega) w6).2.1.fset (by omega)
  have y7 : ∀ a, a < n → a_sh (a_fset (hI6 (a_make (a_fset (hI1 (a_make (a_fset (hI8 (a_make (a_fset (hI5 (a_make (a_fset (hI5 (a_make (a_fset (hI9 (a_make (a_fset (hI7 (a_make h (1, 7, 7) (a_dv 7)) n (n + 1)) b 0 (.ref n)) (1, 9, 12) (a_dv 9)) (n + 2) (n + 3)) b 1 (.ref (n + 2))) (1, 5, 5) (a_dv 5)) (n + 13) (n + 14)) b 2 (.ref (n + 13))) (1, 5, 5) (a_dv 5)) (n + 18) (n + 19)) b 3 (.ref (n + 18))) (1, 8, 6) (a_dv 8)) (n + 23) (n + 24)) b 4 (.ref (n + 23))) (1, 1, 1) (a_dv 1)) (n + 44) (n + 45)) b 5 (.ref (n + 44))) (1, 6, 2) (a_dv 6)) (n + 46) (n + 47)) b 6 (.ref (n + 46))) a = a_sh h a := fun a ha => ((iI6 (d := 0) (post := fun _ _ => True) m6 (show (n + 46) < n + 47 by omega) (by omega) w6).2.2 a (by omega)).trans (v6 a ha)
  have g7 : a_nn (a_fset (hI6 (a_make (a_fset (hI1 (a_make (a_fset (hI8 (a_make (a_fset (hI5 (a_make (a_fset (hI5 (a_make (a_fset (hI9 (a_make (a_fset (hI7 (a_make h (1, 7, 7) (a_dv 7)) n (n + 1)) b 0 (.ref n)) (1, 9, 12) (a_dv 9)) (n + 2) (n + 3)) b 1 (.ref (n + 2))) (1, 5, 5) (a_dv 5)) (n + 13) (n + 14)) b 2 (.ref (n + 13))) (1, 5, 5) (a_dv 5)) (n + 18) (n + 19)) b 3 (.ref (n + 18))) (1, 8, 6) (a_dv 8)) (n + 23) (n + 24)) b 4 (.ref (n + 23))) (1, 1, 1) (a_dv 1)) (n + 44) (n + 45)) b 5 (.ref (n + 44))) (1, 6, 2) (a_dv 6)) (n + 46) (n + 47)) b 6 (.ref (n + 46))) = (n + 49) := z7.2
  have m7 : CO (a_make (a_fset (hI6 (a_make (a_fset (hI1 (a_make (a_fset (hI8 (a_make (a_fset (hI5 (a_make (a_fset (hI5 (a_make (a_fset (hI9 (a_make (a_fset (hI7 (a_make h (1, 7, 7) (a_dv 7)) n (n + 1)) b 0 (.ref n)) (1, 9, 12) (a_dv 9)) (n + 2) (n + 3)) b 1 (.ref (n + 2))) (1, 5, 5) (a_dv 5)) (n + 13) (n + 14)) b 2 (.ref (n + 13))) (1, 5, 5) (a_dv 5)) (n + 18) (n + 19)) b 3 (.ref (n + 18))) (1, 8, 6) (a_dv 8)) (n + 23) (n + 24)) b 4 (.ref (n + 23))) (1, 1, 1) (a_dv 1)) (n + 44) (n + 45)) b 5 (.ref (n + 44))) (1, 6, 2) (a_dv 6)) (n + 46) (n + 47)) b 6 (.ref (n + 46))) (1, 4, 8) (a_dv 4)) (n + 50) := z7.make (by omega) (dv_ref 4 (by decide))
  have w7 : a_sh (a_make (a_fset (hI6 (a_make (a_fset (hI1 (a_make (a_fset (hI8 (a_make (a_fset (hI5 (a_make (a_fset (hI5 (a_make (a_fset (hI9 (a_make (a_fset (hI7 (a_make h (1, 7, 7) (a_dv 7)) n (n + 1)) b 0 (.ref n)) (1, 9, 12) (a_dv 9)) (n + 2) (n + 3)) b 1 (.ref (n + 2))) (1, 5, 5) (a_dv 5)) (n + 13) (n + 14)) b 2 (.ref (n + 13))) (1, 5, 5) (a_dv 5)) (n + 18) (n + 19)) b 3 (.ref (n + 18))) (1, 8, 6) (a_dv 8)) (n + 23) (n + 24)) b 4 (.ref (n + 23))) (1, 1, 1) (a_dv 1)) (n + 44) (n + 45)) b 5 (.ref (n + 44))) (1, 6, 2) (a_dv 6)) (n + 46) (n + 47)) b 6 (.ref (n + 46))) (1, 4, 8) (a_dv 4)) (n + 49) = (1, 4, 8) := by rw [sh_make, g7, if_pos rfl]
  have v7 : ∀ a, a < n → a_sh (a_make (a_fset (hI6 (a_make (a_fset (hI1 (a_make (a_fset (hI8 (a_make (a_fset (hI5 (a_make (a_fset (hI5 (a_make (a_fset (hI9 (a_make (a_fset (hI7 (a_make h (1, 7, 7) (a_dv 7)) n (n + 1)) b 0 (.ref n)) (1, 9, 12) (a_dv 9)) (n + 2) (n + 3)) b 1 (.ref (n + 2))) (1, 5, 5) (a_dv 5)) (n + 13) (n + 14)) b 2 (.ref (n + 13))) (1, 5, 5) (a_dv 5)) (n + 18) (n + 19)) b 3 (.ref (n + 18))) (1, 8, 6) (a_dv 8)) (n + 23) (n + 24)) b 4 (.ref (n + 23))) (1, 1, 1) (a_dv 1)) (n + 44) (n + 45)) b 5 (.ref (n + 44))) (1, 6, 2) (a_dv 6)) (n + 46) (n + 47)) b 6 (.ref (n + 46))) (1, 4, 8) (a_dv 4)) a = a_sh h a := fun a ha => (by rw [sh_make, g7, if_neg (by omega)] : a_sh (a_make (a_fset (hI6 (a_make (a_fset (hI1 (a_make (a_fset (hI8 (a_make (a_fset (hI5 (a_make (a_fset (hI5 (a_make (a_fset (hI9 (a_make (a_fset (hI7 (a_make h (1, 7, 7) (a_dv 7)) n (n + 1)) b 0 (.ref n)) (1, 9, 12) (a_dv 9)) (n + 2) (n + 3)) b 1 (.ref (n + 2))) (1, 5, 5) (a_dv 5)) (n + 13) (n + 14)) b 2 (.ref (n + 13))) (1, 5, 5) (a_dv 5)) (n + 18) (n + 19)) b 3 (.ref (n + 18))) (1, 8, 6) (a_dv 8)) (n + 23) (n + 24)) b 4 (.ref (n + 23))) (1, 1, 1) (a_dv 1)) (n + 44) (n + 45)) b 5 (.ref (n + 44))) (1, 6, 2) (a_dv 6)) (n + 46) (n + 47)) b 6 (.ref (n + 46))) (1, 4, 8) (a_dv 4)) a = a_sh (a_fset (hI6 (a_make (a_fset (hI1 (a_make (a_fset (hI8 (a_make (a_fset (hI5 (a_make (a_fset (hI5 (a_make (a_fset (hI9 (a_make (a_fset (hI7 (a_make h (1, 7, 7) (a_dv 7)) n (n + 1)) b 0 (.ref n)) (1, 9, 12) (a_dv 9)) (n + 2) (n + 3)) b 1 (.ref (n + 2))) (1, 5, 5) (a_dv 5)) (n + 13) (n + 14)) b 2 (.ref (n + 13))) (1, 5, 5) (a_dv 5)) (n + 18) (n + 19)) b 3 (.ref (n + 18))) (1, 8, 6) (a_dv 8)) (n + 23) (n + 24)) b 4 (.ref (n + 23))) (1, 1, 1) (a_dv 1)) (n + 44) (n + 45)) b 5 (.ref (n + 44))) (1, 6, 2) (a_dv 6)) (n + 46) (n + 47)) b 6 (.ref (n + 46))) a).trans (y7 a ha)
  have z8 : CO (a_fset (hI4 (a_make (a_fset (hI6 (a_make (a_fset (hI1 (a_make (a_fset (hI8 (a_make (a_fset (hI5 (a_make (a_fset (hI5 (a_make (a_fset (hI9 (a_make (a_fset (hI7 (a_make h (1, 7, 7) (a_dv 7)) n (n + 1)) b 0 (.ref n)) (1, 9, 12) (a_dv 9)) (n + 2) (n + 3)) b 1 (.ref (n + 2))) (1, 5, 5) (a_dv 5)) (n + 13) (n + 14)) b 2 (.ref (n + 13))) (1, 5, 5) (a_dv 5)) (n + 18) (n + 19)) b 3 (.ref (n + 18))) (1, 8, 6) (a_dv 8)) (n + 23) (n + 24)) b 4 (.ref (n + 23))) (1, 1, 1) (a_dv 1)) (n + 44) (n + 45)) b 5 (.ref (n + 44))) (1, 6, 2) (a_dv 6)) (n + 46) (n + 47)) b 6 (.ref (n + 46))) (1, 4, 8) (a_dv 4)) (n + 49) (n + 50)) b 7 (.ref (n + 49))) (n + 53) := (iI4 (d := 0) (post := fun _ _ => True) m7 (show (n + 49) < n + 50 by omega) (by omega) w7).2.1.fset (by omega)
  have y8 : ∀ a, a < n → a_sh (a_fset (hI4 (a_make (a_fset (hI6 (a_make (a_fset (hI1 (a_make (a_fset (hI8 (a_make (a_fset (hI5 (a_make (a_fset (hI5 (a_make (a_fset (hI9 (a_make (a_fset (hI7 (a_make h (1, 7, 7) (a_dv 7)) n (n + 1)) b 0 (.ref n)) (1, 9, 12) (a_dv 9)) (n + 2) (n + 3)) b 1 (.ref (n + 2))) (1, 5, 5) (a_dv 5)) (n + 13) (n + 14)) b 2 (.ref (n + 13))) (1, 5, 5) (a_dv 5)) (n + 18) (n + 19)) b 3 (.ref (n + 18))) (1, 8, 6) (a_dv 8)) (n + 23) (n + 24)) b 4 (.ref (n + 23))) (1, 1, 1) (a_dv 1)) (n + 44) (n + 45)) b 5 (.ref (n + 44))) (1, 6, 2) (a_dv 6)) (n + 46) (n + 47)) b 6 (.ref (n + 46))) (1, 4, 8) (a_dv 4)) (n + 49) (n + 50)) b 7 (.ref (n + 49))) a = a_sh h a := fun a ha => ((iI4 (d := 0) (post := fun _ _ => True) m7 (show (n + 49) < n + 50 by omega) (by omega) w7).2.2 a (by omega)).trans (v7 a ha)
  have g8 : a_nn (a_fset (hI4 (a_make (a_fset (hI6 (a_make (a_fset (hI1 (a_make (a_fset (hI8 (a_make (a_fset (hI5 (a_make (a_fset (hI5 (a_make (a_fset (hI9 (a_make (a_fset (hI7 (a_make h (1, 7, 7) (a_dv 7)) n (n + 1)) b 0 (.ref n)) (1, 9, 12) (a_dv 9)) (n + 2) (n + 3)) b 1 (.ref (n + 2))) (1, 5, 5) (a_dv 5)) (n + 13) (n + 14)) b 2 (.ref (n + 13))) (1, 5, 5) (a_dv 5)) (n + 18) (n + 19)) b 3 (.ref (n + 18))) (1, 8, 6) (a_dv 8)) (n + 23) (n + 24)) b 4 (.ref (n + 23))) (1, 1, 1) (a_dv 1)) (n + 44) (n + 45)) b 5 (.ref (n + 44))) (1, 6, 2) (a_dv 6)) (n + 46) (n + 47)) b 6 (.ref (n + 46))) (1, 4, 8) (a_dv 4)) (n + 49) (n + 50)) b 7 (.ref (n + 49))) = (n + 53) := z8.2
  have m8 : CO (a_make (a_fset (hI4 (a_make (a_fset (hI6 (a_make (a_fset (hI1 (a_make (a_fset (hI8 (a_make (a_fset (hI5 (a_make (a_fset (hI5 (a_make (a_fset (hI9 (a_make (a_fset (hI7 (a_make h (1, 7, 7) (a_dv 7)) n (n + 1)) b 0 (.ref n)) (1, 9, 12) (a_dv 9)) (n + 2) (n + 3)) b 1 (.ref (n + 2))) (1, 5, 5) (a_dv 5)) (n + 13) (n + 14)) b 2 (.ref (n + 13))) (1, 5, 5) (a_dv 5)) (n + 18) (n + 19)) b 3 (.ref (n + 18))) (1, 8, 6) (a_dv 8)) (n + 23) (n + 24)) b 4 (.ref (n + 23))) (1, 1, 1) (a_dv 1)) (n + 44) (n + 45)) b 5 (.ref (n + 44))) (1, 6, 2) (a_dv 6)) (n + 46) (n + 47)) b 6 (.ref (n + 46))) (1, 4, 8) (a_dv 4)) (n + 49) (n + 50)) b 7 (.ref (n + 49))) (1, 2, 3) (a_dv 2)) (n + 54) := z8.make (by omega) (dv_ref 2 (by decide))
  have w8 : a_sh (a_make (a_fset (hI4 (a_make (a_fset (hI6 (a_make (a_fset (hI1 (a_make (a_fset (hI8 (a_make (a_fset (hI5 (a_make (a_fset (hI5 (a_make (a_fset (hI9 (a_make (a_fset (hI7 (a_make h (1, 7, 7) (a_dv 7)) n (n + 1)) b 0 (.ref n)) (1, 9, 12) (a_dv 9)) (n + 2) (n + 3)) b 1 (.ref (n + 2))) (1, 5, 5) (a_dv 5)) (n + 13) (n + 14)) b 2 (.ref (n + 13))) (1, 5, 5) (a_dv 5)) (n + 18) (n + 19)) b 3 (.ref (n + 18))) (1, 8, 6) (a_dv 8)) (n + 23) (n + 24)) b 4 (.ref (n + 23))) (1, 1, 1) (a_dv 1)) (n + 44) (n + 45)) b 5 (.ref (n + 44))) (1, 6, 2) (a_dv 6)) (n + 46) (n + 47)) b 6 (.ref (n + 46))) (1, 4, 8) (a_dv 4)) (n + 49) (n + 50)) b 7 (.ref (n + 49))) (1, 2, 3) (a_dv 2)) (n + 53) = (1, 2, 3) := by rw [sh_make, g8, if_pos rfl]
  have v8 : ∀ a, a < n → a_sh (a_make (a_fset (hI4 (a_make (a_fset (hI6 (a_make (a_fset (hI1 (a_make (a_fset (hI8 (a_make (a_fset (hI5 (a_make (a_fset (hI5 (a_make (a_fset (hI9 (a_make (a_fset (hI7 (a_make h (1, 7, 7) (a_dv 7)) n (n + 1)) b 0 (.ref n)) (1, 9, 12) (a_dv 9)) (n + 2) (n + 3)) b 1 (.ref (n + 2))) (1, 5, 5) (a_dv 5)) (n + 13) (n + 14)) b 2 (.ref (n + 13))) (1, 5, 5) (a_dv 5)) (n + 18) (n + 19)) b 3 (.ref (n + 18))) (1, 8, 6) (a_dv 8)) (n + 23) (n + 24)) b 4 (.ref (n + 23))) (1, 1, 1) (a_dv 1)) (n + 44) (n + 45)) b 5 (.ref (n + 44))) (1, 6, 2) (a_dv 6)) (n + 46) (n + 47)) b 6 (.ref (n + 46))) (1, 4, 8) (a_dv 4)) (n + 49) (n + 50)) b 7 (.ref (n + 49))) (1, 2, 3) (a_dv 2)) a = a_sh h a := fun a ha => (by rw [sh_make, g8, if_neg (by omega)] : a_sh (a_make (a_fset (hI4 (a_make (a_fset (hI6 (a_make (a_fset (hI1 (a_make (a_fset (hI8 (a_make (a_fset (hI5 (a_make (a_fset (hI5 (a_make (a_fset (hI9 (a_make (a_fset (hI7 (a_make h (1, 7, 7) (a_dv 7)) n (n + 1)) b 0 (.ref n)) (1, 9, 12) (a_dv 9)) (n + 2) (n + 3)) b 1 (.ref (n + 2))) (1, 5, 5) (a_dv 5)) (n + 13) (n + 14)) b 2 (.ref (n + 13))) (1, 5, 5) (a_dv 5)) (n + 18) (n + 19)) b 3 (.ref (n + 18))) (1, 8, 6) (a_dv 8)) (n + 23) (n + 24)) b 4 (.ref (n + 23))) (1, 1, 1) (a_dv 1)) (n + 44) (n + 45)) b 5 (.ref (n + 44))) (1, 6, 2) (a_dv 6)) (n + 46) (n + 47)) b 6 (.ref (n + 46))) (1, 4, 8) (a_dv 4)) (n + 49) (n + 50)) b 7 (.ref (n + 49))) (1, 2, 3) (a_dv 2)) a = a_sh (a_fset (hI4 (a_make (a_fset (hI6 (a_make (a_fset (hI1 (a_make (a_fset (hI8 (a_make (a_fset (hI5 (a_make (a_fset (hI5 (a_make (a_fset (hI9 (a_make (a_fset (hI7 (a_make h (1, 7, 7) (a_dv 7)) n (n + 1)) b 0 (.ref n)) (1, 9, 12) (a_dv 9)) (n + 2) (n + 3)) b 1 (.ref (n + 2))) (1, 5, 5) (a_dv 5)) (n + 13) (n + 14)) b 2 (.ref (n + 13))) (1, 5, 5) (a_dv 5)) (n + 18) (n + 19)) b 3 (.ref (n + 18))) (1, 8, 6) (a_dv 8)) (n + 23) (n + 24)) b 4 (.ref (n + 23))) (1, 1, 1) (a_dv 1)) (n + 44) (n + 45)) b 5 (.ref (n + 44))) (1, 6, 2) (a_dv 6)) (n + 46) (n + 47)) b 6 (.ref (n + 46))) (1, 4, 8) (a_dv 4)) (n + 49) (n + 50)) b 7 (.ref (n + 49))) a).trans (y8 a ha)
  have z9 : CO (a_fset (hI2 (a_make (a_fset (hI4 (a_make (a_fset (hI6 (a_make (a_fset (hI1 (a_make (a_fset (hI8 (a_make (a_fset (hI5 (a_make (a_fset (hI5 (a_make (a_fset (hI9 (a_make (a_fset (hI7 (a_make h (1, 7, 7) (a_dv 7)) n (n + 1)) b 0 (.ref n)) (1, 9, 12) (a_dv 9)) (n + 2) (n + 3)) b 1 (.ref (n + 2))) (1, 5, 5) (a_dv 5)) (n + 13) (n + 14)) b 2 (.ref (n + 13))) (1, 5, 5) (a_dv 5)) (n + 18) (n + 19)) b 3 (.ref (n + 18))) (1, 8, 6) (a_dv 8)) (n + 23) (n + 24)) b 4 (.ref (n + 23))) (1, 1, 1) (a_dv 1)) (n + 44) (n + 45)) b 5 (.ref (n + 44))) (1, 6, 2) (a_dv 6)) (n + 46) (n + 47)) b 6 (.ref (n + 46))) (1, 4, 8) (a_dv 4)) (n + 49) (n + 50)) b 7 (.ref (n + 49))) (1, 2, 3) (a_dv 2)) (n + 53) (n + 54)) b 8 (.ref (n + 53))) (n + 54) := (iI2 (d := 0) (post := fun _ _ => True) m8 (show (n + 53) < n + 54 by omega) (by omega) w8).2.1.fset (by omega)
  have y9 : ∀ a, a < n → a_sh (a_fset (hI2 (a_make (a_fset (hI4 (a_make (a_fset (hI6 (a_make (a_fset (hI1 (a_make (a_fset (hI8 (a_make (a_fset (hI5 (a_make (a_fset (hI5 (a_make (a_fset (hI9 (a_make (a_fset (hI7 (a_make h (1, 7, 7) (a_dv 7)) n (n + 1)) b 0 (.ref n)) (1, 9, 12) (a_dv 9)) (n + 2) (n + 3)) b 1 (.ref (n + 2))) (1, 5, 5) (a_dv 5)) (n + 13) (n + 14)) b 2 (.ref (n + 13))) (1, 5, 5) (a_dv 5)) (n + 18) (n + 19)) b 3 (.ref (n + 18))) (1, 8, 6) (a_dv 8)) (n + 23) (n + 24)) b 4 (.ref (n + 23))) (1, 1, 1) (a_dv 1)) (n + 44) (n + 45)) b 5 (.ref (n + 44))) (1, 6, 2) (a_dv 6)) (n + 46) (n + 47)) b 6 (.ref (n + 46))) (1, 4, 8) (a_dv 4)) (n + 49) (n + 50)) b 7 (.ref (n + 49))) (1, 2, 3) (a_dv 2)) (n + 53) (n + 54)) b 8 (.ref (n + 53))) a = a_sh h a := fun a ha => ((iI2 (d := 0) (post := fun _ _ => True) m8 (show (n + 53) < n + 54 by omega) (by omega) w8).2.2 a (by omega)).trans (v8 a ha)
  have g9 : a_nn (a_fset (hI2 (a_make (a_fset (hI4 (a_make (a_fset (hI6 (a_make (a_fset (hI1 (a_make (a_fset (hI8 (a_make (a_fset (hI5 (a_make (a_fset (hI5 (a_make (a_fset (hI9 (a_make (a_fset (hI7 (a_make h (1, 7, 7) (a_dv 7)) n (n + 1)) b 0 (.ref n)) (1, 9, 12) (a_dv 9)) (n + 2) (n + 3)) b 1 (.ref (n + 2))) (1, 5, 5) (a_dv 5)) (n + 13) (n + 14)) b 2 (.ref (n + 13))) (1, 5, 5) (a_dv 5)) (n + 18) (n + 19)) b 3 (.ref (n + 18))) (1, 8, 6) (a_dv 8)) (n + 23) (n + 24)) b 4 (.ref (n + 23))) (1, 1, 1) (a_dv 1)) (n + 44) (n + 45)) b 5 (.ref (n + 44))) (1, 6, 2) (a_dv 6)) (n + 46) (n + 47)) b 6 (.ref (n + 46))) (1, 4, 8) (a_dv 4)) (n + 49) (n + 50)) b 7 (.ref (n + 49))) (1, 2, 3) (a_dv 2)) (n + 53) (n + 54)) b 8 (.ref (n + 53))) = (n + 54) := z9.2
  have m9 : CO (a_make (a_fset (hI2 (a_make (a_fset (hI4 (a_make (a_fset (hI6 (a_make (a_fset (hI1 (a_make (a_fset (hI8 (a_make (a_fset (hI5 (a_make (a_fset (hI5 (a_make (a_fset (hI9 (a_make (a_fset (hI7 (a_make h (1, 7, 7) (a_dv 7)) n (n + 1)) b 0 (.ref n)) (1, 9, 12) (a_dv 9)) (n + 2) (n + 3)) b 1 (.ref (n + 2))) (1, 5, 5) (a_dv 5)) (n + 13) (n + 14)) b 2 (.ref (n + 13))) (1, 5, 5) (a_dv 5)) (n + 18) (n + 19)) b 3 (.ref (n + 18))) (1, 8, 6) (a_dv 8)) (n + 23) (n + 24)) b 4 (.ref (n + 23))) (1, 1, 1) (a_dv 1)) (n + 44) (n + 45)) b 5 (.ref (n + 44))) (1, 6, 2) (a_dv 6)) (n + 46) (n + 47)) b 6 (.ref (n + 46))) (1, 4, 8) (a_dv 4)) (n + 49) (n + 50)) b 7 (.ref (n + 49))) (1, 2, 3) (a_dv 2)) (n + 53) (n + 54)) b 8 (.ref (n + 53))) (1, 10, 4) (a_dv 10)) (n + 55) := z9.make (by omega) (dv_ref 10 (by decide))
  have w9 : a_sh (a_make (a_fset (hI2 (a_make (a_fset (hI4 (a_make (a_fset (hI6 (a_make (a_fset (hI1 (a_make (a_fset (hI8 (a_make (a_fset (hI5 (a_make (a_fset (hI5 (a_make (a_fset (hI9 (a_make (a_fset (hI7 (a_make h (1, 7, 7) (a_dv 7)) n (n + 1)) b 0 (.ref n)) (1, 9, 12) (a_dv 9)) (n + 2) (n + 3)) b 1 (.ref (n + 2))) (1, 5, 5) (a_dv 5)) (n + 13) (n + 14)) b 2 (.ref (n + 13))) (1, 5, 5) (a_dv 5)) (n + 18) (n + 19)) b 3 (.ref (n + 18))) (1, 8, 6) (a_dv 8)) (n + 23) (n + 24)) b 4 (.ref (n + 23))) (1, 1, 1) (a_dv 1)) (n + 44) (n + 45)) b 5 (.ref (n + 44))) (1, 6, 2) (a_dv 6)) (n + 46) (n + 47)) b 6 (.ref (n + 46))) (1, 4, 8) (a_dv 4)) (n + 49) (n + 50)) b 7 (.ref (n + 49))) (1, 2, 3) (a_dv 2)) (n + 53) (n + 54)) b 8 (.ref (n + 53))) (1, 10, 4) (a_dv 10)) (n + 54) = (1, 10, 4) := by rw [sh_make, g9, if_pos rfl]
  have v9 : ∀ a, a < n → a_sh (a_make (a_fset (hI2 (a_make (a_fset (hI4 (a_make (a_fset (hI6 (a_make (a_fset (hI1 (a_make (a_fset (hI8 (a_make (a_fset (hI5 (a_make (a_fset (hI5 (a_make (a_fset (hI9 (a_make (a_fset (hI7 (a_make h (1, 7, 7) (a_dv 7)) n (n + 1)) b 0 (.ref n)) (1, 9, 12) (a_dv 9)) (n + 2) (n + 3)) b 1 (.ref (n + 2))) (1, 5, 5) (a_dv 5)) (n + 13) (n + 14)) b 2 (.ref (n + 13))) (1, 5, 5) (a_dv 5)) (n + 18) (n + 19)) b 3 (.ref (n + 18))) (1, 8, 6) (a_dv 8)) (n + 23) (n + 24)) b 4 (.ref (n + 23))) (1, 1, 1) (a_dv 1)) (n + 44) (n + 45)) b 5 (.ref (n + 44))) (1, 6, 2) (a_dv 6)) (n + 46) (n + 47)) b 6 (.ref (n + 46))) (1, 4, 8) (a_dv 4)) (n + 49) (n + 50)) b 7 (.ref (n + 49))) (1, 2, 3) (a_dv 2)) (n + 53) (n + 54)) b 8 (.ref (n + 53))) (1, 10, 4) (a_dv 10)) a = a_sh h a := fun a ha => (by rw [sh_make, g9, if_neg (by omega)] : a_sh (a_make (a_fset (hI2 (a_make (a_fset (hI4 (a_make (a_fset (hI6 (a_make (a_fset (hI1 (a_make (a_fset (hI8 (a_make (a_fset (hI5 (a_make (a_fset (hI5 (a_make (a_fset (hI9 (a_make (a_fset (hI7 (a_make h (1, 7, 7) (a_dv 7)) n (n + 1)) b 0 (.ref n)) (1, 9, 12) (a_dv 9)) (n + 2) (n + 3)) b 1 (.ref (n + 2))) (1, 5, 5) (a_dv 5)) (n + 13) (n + 14)) b 2 (.ref (n + 13))) (1, 5, 5) (a_dv 5)) (n + 18) (n + 19)) b 3 (.ref (n + 18))) (1, 8, 6) (a_dv 8)) (n + 23) (n + 24)) b 4 (.ref (n + 23))) (1, 1, 1) (a_dv 1)) (n + 44) (n + 45)) b 5 (.ref (n + 44))) (1, 6, 2) (a_dv 6)) (n + 46) (n + 47)) b 6 (.ref (n + 46))) (1, 4, 8) (a_dv 4)) (n + 49) (n + 50)) b 7 (.ref (n + 49))) (1, 2, 3) (a_dv 2)) (n + 53) (n + 54)) b 8 (.ref (n + 53))) (1, 10, 4) (a_dv 10)) a = a_sh (a_fset (hI2 (a_make (a_fset (hI4 (a_make (a_fset (hI6 (a_make (a_fset (hI1 (a_make (a_fset (hI8 (a_make (a_fset (hI5 (a_make (a_fset (hI5 (a_make (a_fset (hI9 (a_make (a_fset (hI7 (a_make h (1, 7, 7) (a_dv 7)) n (n + 1)) b 0 (.ref n)) (1, 9, 12) (a_dv 9)) (n + 2) (n + 3)) b 1 (.ref (n + 2))) (1, 5, 5) (a_dv 5)) (n + 13) (n + 14)) b 2 (.ref (n + 13))) (1, 5, 5) (a_dv 5)) (n + 18) (n + 19)) b 3 (.ref (n + 18))) (1, 8, 6) (a_dv 8)) (n + 23) (n + 24)) b 4 (.ref (n + 23))) (1, 1, 1) (a_dv 1)) (n + 44) (n + 45)) b 5 (.ref (n + 44))) (1, 6, 2) (a_dv 6)) (n + 46) (n + 47)) b 6 (.ref (n + 46))) (1, 4, 8) (a_dv 4)) (n + 49) (n + 50)) b 7 (.ref (n + 49))) (1, 2, 3) (a_dv 2)) (n + 53) (n + 54)) b 8 (.ref (n + 53))) a).trans (y9 a ha)
  have z10 : CO (a_fset (hI10 (a_make (a_fset (hI2 (a_make (a_fset (hI4 (a_make (a_fset (hI6 (a_make (a_fset (hI1 (a_make (a_fset (hI8 (a_make (a_fset (hI5 (a_make (a_fset (hI5 (a_make (a_fset (hI9 (a_make (a_fset (hI7 (a_make h (1, 7, 7) (a_dv 7)) n (n + 1)) b 0 (.ref n)) (1, 9, 12) (a_dv 9)) (n + 2) (n + 3)) b 1 (.ref (n + 2))) (1, 5, 5) (a_dv 5)) (n + 13) (n + 14)) b 2 (.ref (n + 13))) (1, 5, 5) (a_dv 5)) (n + 18) (n + 19)) b 3 (.ref (n + 18))) (1, 8, 6) (a_dv 8)) (n + 23) (n + 24)) b 4 (.ref (n + 23))) (1, 1, 1) (a_dv 1)) (n + 44) (n + 45)) b 5 (.ref (n + 44))) (1, 6, 2) (a_dv 6)) (n + 46) (n + 47)) b 6 (.ref (n + 46))) (1, 4, 8) (a_dv 4)) (n + 49) (n + 50)) b 7 (.ref (n + 49))) (1, 2, 3) (a_dv 2)) (n + 53) (n + 54)) b 8 (.ref (n + 53))) (1, 10, 4) (a_dv 10)) (n + 54) (n + 55)) b 9 (.ref (n + 54))) (n + 58) := (iI10 (d := 0) (post := fun _ _ => True) m9 (show (n + 54) < n + 55 by omega) (by omega) w9).2.1.fset (by omega)
  have y10 : ∀ a, a < n → a_sh (a_fset (hI10 (a_make (a_fset (hI2 (a_make (a_fset (hI4 (a_make (a_fset (hI6 (a_make (a_fset (hI1 (a_make (a_fset (hI8 (a_make (a_fset (hI5 (a_make (a_fset (hI5 (a_make (a_fset (hI9 (a_make (a_fset (hI7 (a_make h (1, 7, 7) (a_dv 7)) n (n + 1)) b 0 (.ref n)) (1, 9, 12) (a_dv 9)) (n + 2) (n + 3)) b 1 (.ref (n + 2))) (1, 5, 5) (a_dv 5)) (n + 13) (n + 14)) b 2 (.ref (n + 13))) (1, 5, 5) (a_dv 5)) (n + 18) (n + 19)) b 3 (.ref (n + 18))) (1, 8, 6) (a_dv 8)) (n + 23) (n + 24)) b 4 (.ref (n + 23))) (1, 1, 1) (a_dv 1)) (n + 44) (n + 45)) b 5 (.ref (n + 44))) (1, 6, 2) (a_dv 6)) (n + 46) (n + 47)) b 6 (.ref (n + 46))) (1, 4, 8) (a_dv 4)) (n + 49) (n + 50)) b 7 (.ref (n + 49))) (1, 2, 3) (a_dv 2)) (n + 53) (n + 54)) b 8 (.ref (n + 53))) (1, 10, 4) (a_dv 10)) (n + 54) (n + 55)) b 9 (.ref (n + 54))) a = a_sh h a := fun a ha => ((iI10 (d := 0) (post := fun _ _ => True) m9 (show (n + 54) < n + 55 by omega) (by omega) w9).2.2 a (by omega)).trans (v9 a ha)
  have g10 : a_nn (a_fset (hI10 (a_make (a_fset (hI2 (a_make (a_fset (hI4 (a_make (a_fset (hI6 (a_make (a_fset (hI1 (a_make (a_fset (hI8 (a_make (a_fset (hI5 (a_make (a_fset (hI5 (a_make (a_fset (hI9 (a_make (a_fset (hI7 (a_make h (1, 7, 7) (a_dv 7)) n (n + 1)) b 0 (.ref n)) (1, 9, 12) (a_dv 9)) (n + 2) (n + 3)) b 1 (.ref (n + 2))) (1, 5, 5) (a_dv 5)) (n + 13) (n + 14)) b 2 (.ref (n + 13))) (1, 5, 5) (a_dv 5)) (n + 18) (n + 19)) b 3 (.ref (n + 18))) (1, 8, 6) (a_dv 8)) (n + 23) (n + 24)) b 4 (.ref (n + 23))) (1, 1, 1) (a_dv 1)) (n + 44) (n + 45)) b 5 (.ref (n + 44))) (1, 6, 2) (a_dv 6)) (n + 46) (n + 47)) b 6 (.ref (n + 46))) (1, 4, 8) (a_dv 4)) (n + 49) (n + 50)) b 7 (.ref (n + 49))) (1, 2, 3) (a_dv 2)) (n + 53) (n + 54)) b 8 (.ref (n + 53))) (1, 10, 4) (a_dv 10)) (n + 54) (n + 55)) b 9 (.ref (n + 54))) = (n + 58) := z10.2
  have m10 : CO (a_make (a_fset (hI10 (a_make (a_fset (hI2 (a_make (a_fset (hI4 (a_make (a_fset (hI6 (a_make (a_fset (hI1 (a_make (a_fset (hI8 (a_make (a_fset (hI5 (a_make (a_fset (hI5 (a_make (a_fset (hI9 (a_make (a_fset (hI7 (a_make h (1, 7, 7) (a_dv 7)) n (n + 1)) b 0 (.ref n)) (1, 9, 12) (a_dv 9)) (n + 2) (n + 3)) b 1 (.ref (n + 2))) (1, 5, 5) (a_dv 5)) (n + 13) (n + 14)) b 2 (.ref (n + 13))) (1, 5, 5) (a_dv 5)) (n + 18) (n + 19)) b 3 (.ref (n + 18))) (1, 8, 6) (a_dv 8)) (n + 23) (n + 24)) b 4 (.ref (n + 23))) (1, 1, 1) (a_dv 1)) (n + 44) (n + 45)) b 5 (.ref (n + 44))) (1, 6, 2) (a_dv 6)) (n + 46) (n + 47)) b 6 (.ref (n + 46))) (1, 4, 8) (a_dv 4)) (n + 49) (n + 50)) b 7 (.ref (n + 49))) (1, 2, 3) (a_dv 2)) (n + 53) (n + 54)) b 8 (.ref (n + 53))) (1, 10, 4) (a_dv 10)) (n + 54) (n + 55)) b 9 (.ref (n + 54))) (1, 3, 10) (a_dv 3)) (n + 59) := z10.make (by omega) (dv_ref 3 (by decide))
  have w10 : a_sh (a_make (a_fset (hI10 (a_make (a_fset (hI2 (a_make (a_fset (hI4 (a_make (a_fset (hI6 (a_make (a_fset (hI1 (a_make (a_fset (hI8 (a_make (a_fset (hI5 (a_make (a_fset (hI5 (a_make (a_fset (hI9 (a_make (a_fset (hI7 (a_make h (1, 7, 7) (a_dv 7)) n (n + 1)) b 0 (.ref n)) (1, 9, 12) (a_dv 9)) (n + 2) (n + 3)) b 1 (.ref (n + 2))) (1, 5, 5) (a_dv 5)) (n + 13) (n + 14)) b 2 (.ref (n + 13))) (1, 5, 5) (a_dv 5)) (n + 18) (n + 19)) b 3 (.ref (n + 18))) (1, 8, 6) (a_dv 8)) (n + 23) (n + 24)) b 4 (.ref (n + 23))) (1, 1, 1) (a_dv 1)) (n + 44) (n + 45)) b 5 (.ref (n + 44))) (1, 6, 2) (a_dv 6)) (n + 46) (n + 47)) b 6 (.ref (n + 46))) (1, 4, 8) (a_dv 4)) (n + 49) (n + 50)) b 7 (.ref (n + 49))) (1, 2, 3) (a_dv 2)) (n + 53) (n + 54)) b 8 (.ref (n + 53))) (1, 10, 4) (a_dv 10)) (n + 54) (n + 55)) b 9 (.ref (n + 54))) (1, 3, 10) (a_dv 3)) (n + 58) = (1, 3, 10) := by rw [sh_make, g10, if_pos rfl]
  have v10 : ∀ a, a < n → a_sh (a_make (a_fset (hI10 (a_make (a_fset (hI2 (a_make (a_fset (hI4 (a_make (a_fset (hI6 (a_make (a_fset (hI1 (a_make (a_fset (hI8 (a_make (a_fset (hI5 (a_make (a_fset (hI5 (a_make (a_fset (hI9 (a_make (a_fset (hI7 (a_make h (1, 7, 7) (a_dv 7)) n (n + 1)) b 0 (.ref n)) (1, 9, 12) (a_dv 9)) (n + 2) (n + 3)) b 1 (.ref (n + 2))) (1, 5, 5) (a_dv 5)) (n + 13) (n + 14)) b 2 (.ref (n + 13))) (1, 5, 5) (a_dv 5)) (n + 18) (n + 19)) b 3 (.ref (n + 18))) (1, 8, 6) (a_dv 8)) (n + 23) (n + 24)) b 4 (.ref (n + 23))) (1, 1, 1) (a_dv 1)) (n + 44) (n + 45)) b 5 (.ref (n + 44))) (1, 6, 2) (a_dv 6)) (n + 46) (n + 47)) b 6 (.ref (n + 46))) (1, 4, 8) (a_dv 4)) (n + 49) (n + 50)) b 7 (.ref (n + 49))) (1, 2, 3) (a_dv 2)) (n + 53) (n + 54)) b 8 (.ref (n + 53))) (1, 10, 4) (a_dv 10)) (n + 54) (n + 55)) b 9 (.ref (n + 54))) (1, 3, 10) (a_dv 3)) a = a_sh h a := fun a ha => (by rw [sh_make, g10, if_neg (by omega)] : a_sh (a_make (a_fset (hI10 (a_make (a_fset (hI2 (a_make (a_fset (hI4 (a_make (a_fset (hI6 (a_make (a_fset (hI1 (a_make (a_fset (hI8 (a_make (a_fset (hI5 (a_make (a_fset (hI5 (a_make (a_fset (hI9 (a_make (a_fset (hI7 (a_make h (1, 7, 7) (a_dv 7)) n (n + 1)) b 0 (.ref n)) (1, 9, 12) (a_dv 9)) (n + 2) (n + 3)) b 1 (.ref (n + 2))) (1, 5, 5) (a_dv 5)) (n + 13) (n + 14)) b 2 (.ref (n + 13))) (1, 5, 5) (a_dv 5)) (n + 18) (n + 19)) b 3 (.ref (n + 18))) (1, 8, 6) (a_dv 8)) (n + 23) (n + 24)) b 4 (.ref (n + 23))) (1, 1, 1) (a_dv 1)) (n + 44) (n + 45)) b 5 (.ref (n + 44))) (1, 6, 2) (a_dv 6)) (n + 46) (n + 47)) b 6 (.ref (n + 46))) (1, 4, 8) (a_dv 4)) (n + 49) (n + 50)) b 7 (.ref (n + 49))) (1, 2, 3) (a_dv 2)) (n + 53) (n + 54)) b 8 (.ref (n + 53))) (1, 10, 4) (a_dv 10)) (n + 54) (n + 55)) b 9 (.ref (n + 54))) (1, 3, 10) (a_dv 3)) a = a_sh (a_fset (hI10 (a_make (a_fset (hI2 (a_make (a_fset (hI4 (a_make (a_fset (hI6 (a_make (a_fset (hI1 (a_make (a_fset (hI8 (a_make (a_fset (hI5 (a_make (a_fset (hI5 (a_make (a_fset (hI9 (a_make (a_fset (hI7 (a_make h (1, 7, 7) (a_dv 7)) n (n + 1)) b 0 (.ref n)) (1, 9, 12) (a_dv 9)) (n + 2) (n + 3)) b 1 (.ref (n + 2))) (1, 5, 5) (a_dv 5)) (n + 13) (n + 14)) b 2 (.ref (n + 13))) (1, 5, 5) (a_dv 5)) (n + 18) (n + 19)) b 3 (.ref (n + 18))) (1, 8, 6) (a_dv 8)) (n + 23) (n + 24)) b 4 (.ref (n + 23))) (1, 1, 1) (a_dv 1)) (n + 44) (n + 45)) b 5 (.ref (n + 44))) (1, 6, 2) (a_dv 6)) (n + 46) (n + 47)) b 6 (.ref (n + 46))) (1, 4, 8) (a_dv 4)) (n + 49) (n + 50)) b 7 (.ref (n + 49))) (1, 2, 3) (a_dv 2)) (n + 53) (n + 54)) b 8 (.ref (n + 53))) (1, 10, 4) (a_dv 10)) (n + 54) (n + 55)) b 9 (.ref (n + 54))) a).trans (y10 a ha)
  have z11 : CO (a_fset (hI3 (a_make (a_fset (hI10 (a_make (a_fset (hI2 (a_make (a_fset (hI4 (a_make (a_fset (hI6 (a_make (a_fset (hI1 (a_make (a_fset (hI8 (a_make (a_fset (hI5 (a_make (a_fset (hI5 (a_make (a_fset (hI9 (a_make (a_fset (hI7 (a_make h (1, 7, 7) (a_dv 7)) n (n + 1)) b 0 (.ref n)) (1, 9, 12) (a_dv 9)) (n + 2) (n + 3)) b 1 (.ref (n + 2))) (1, 5, 5) (a_dv 5)) (n + 13) (n + 14)) b 2 (.ref (n + 13))) (1, 5, 5) (a_dv 5)) (n + 18) (n + 19)) b 3 (.ref (n + 18))) (1, 8, 6) (a_dv 8)) (n + 23) (n + 24)) b 4 (.ref (n + 23))) (1, 1, 1) (a_dv 1)) (n + 44) (n + 45)) b 5 (.ref (n + 44))) (1, 6, 2) (a_dv 6)) (n + 46) (n + 47)) b 6 (.ref (n + 46))) (1, 4, 8) (a_dv 4)) (n + 49) (n + 50)) b 7 (.ref (n + 49))) (1, 2, 3) (a_dv 2)) (n + 53) (n + 54)) b 8 (.ref (n + 53))) (1, 10, 4) (a_dv 10)) (n + 54) (n + 55)) b 9 (.ref (n + 54))) (1, 3, 10) (a_dv 3)) (n + 58) (n + 59)) b 10 (.ref (n + 58))) (n + 65) := (iI3 (d := 0) (post := fun _ _ => True) m10 (show (n + 58) < n + 59 by omega) (by omega) w10).2.1.fset (by omega)
  have y11 : ∀ a, a < n → a_sh (a_fset (hI3 (a_make (a_fset (hI10 (a_make (a_fset (hI2 (a_make (a_fset (hI4 (a_make (a_fset (hI6 (a_make (a_fset (hI1 (a_make (a_fset (hI8 (a_make (a_fset (hI5 (a_make (a_fset (hI5 (a_make (a_fset (hI9 (a_make (a_fset (hI7 (a_make h (1, 7, 7) (a_dv 7)) n (n + 1)) b 0 (.ref n)) (1, 9, 12) (a_dv 9)) (n + 2) (n + 3)) b 1 (.ref (n + 2))) (1, 5, 5) (a_dv 5)) (n + 13) (n + 14)) b 2 (.ref (n + 13))) (1, 5, 5) (a_dv 5)) (n + 18) (n + 19)) b 3 (.ref (n + 18))) (1, 8, 6) (a_dv 8)) (n + 23) (n + 24)) b 4 (.ref (n + 23))) (1, 1, 1) (a_dv 1)) (n + 44) (n + 45)) b 5 (.ref (n + 44))) (1, 6, 2) (a_dv 6)) (n + 46) (n + 47)) b 6 (.ref (n + 46))) (1, 4, 8) (a_dv 4)) (n + 49) (n + 50)) b 7 (.ref (n + 49))) (1, 2, 3) (a_dv 2)) (n + 53) (n + 54)) b 8 (.ref (n + 53))) (1, 10, 4) (a_dv 10)) (n + 54) (n + 55)) b 9 (.ref (n + 54))) (1, 3, 10) (a_dv 3)) (n + 58) (n + 59)) b 10 (.ref (n + 58))) a = a_sh h a := fun a ha => ((iI3 (d := 0) (post := fun _ _ => True) m10 (show (n + 58) < n + 59 by omega) (by omega) w10).2.2 a (by omega)).trans (v10 a ha)
  have g11 : a_nn (a_fset (hI3 (a_make (a_fset (hI10 (a_make (a_fset (hI2 (a_make (a_fset (hI4 (a_make (a_fset (hI6 (a_make (a_fset (hI1 (a_make (a_fset (hI8 (a_make (a_fset (hI5 (a_make (a_fset (hI5 (a_make (a_fset (hI9 (a_make (a_fset (hI7 (a_make h (1, 7, 7) (a_dv 7)) n (n + 1)) b 0 (.ref n)) (1, 9, 12) (a_dv 9)) (n + 2) (n + 3)) b 1 (.ref (n + 2))) (1, 5, 5) (a_dv 5)) (n + 13) (n + 14)) b 2 (.ref (n + 13))) (1, 5, 5) (a_dv 5)) (n + 18) (n + 19)) b 3 (.ref (n + 18))) (1, 8, 6) (a_dv 8)) (n + 23) (n + 24)) b 4 (.ref (n + 23))) (1, 1, 1) (a_dv 1)) (n + 44) (n + 45)) b 5 (.ref (n + 44))) (1, 6, 2) (a_dv 6)) (n + 46) (n + 47)) b 6 (.ref (n + 46))) (1, 4, 8) (a_dv 4)) (n + 49) (n + 50)) b 7 (.ref (n + 49))) (1, 2, 3) (a_dv 2)) (n + 53) (n + 54)) b 8 (.ref (n + 53))) (1, 10, 4) (a_dv 10)) (n + 54) (n + 55)) b 9 (.ref (n + 54))) (1, 3, 10) (a_dv 3)) (n + 58) (n + 59)) b 10 (.ref (n + 58))) = (n + 65) := z11.2
  have m11 : CO (a_make (a_fset (hI3 (a_make (a_fset (hI10 (a_make (a_fset (hI2 (a_make (a_fset (hI4 (a_make (a_fset (hI6 (a_make (a_fset (hI1 (a_make (a_fset (hI8 (a_make (a_fset (hI5 (a_make (a_fset (hI5 (a_make (a_fset (hI9 (a_make (a_fset (hI7 (a_make h (1, 7, 7) (a_dv 7)) n (n + 1)) b 0 (.ref n)) (1, 9, 12) (a_dv 9)) (n + 2) (n + 3)) b 1 (.ref (n + 2))) (1, 5, 5) (a_dv 5)) (n + 13) (n + 14)) b 2 (.ref (n + 13))) (1, 5, 5) (a_dv 5)) (n + 18) (n + 19)) b 3 (.ref (n + 18))) (1, 8, 6) (a_dv 8)) (n + 23) (n + 24)) b 4 (.ref (n + 23))) (1, 1, 1) (a_dv 1)) (n + 44) (n + 45)) b 5 (.ref (n + 44))) (1, 6, 2) (a_dv 6)) (n + 46) (n + 47)) b 6 (.ref (n + 46))) (1, 4, 8) (a_dv 4)) (n + 49) (n + 50)) b 7 (.ref (n + 49))) (1, 2, 3) (a_dv 2)) (n + 53) (n + 54)) b 8 (.ref (n + 53))) (1, 10, 4) (a_dv 10)) (n + 54) (n + 55)) b 9 (.ref (n + 54))) (1, 3, 10) (a_dv 3)) (n + 58) (n + 59)) b 10 (.ref (n + 58))) (1, 3, 10) (a_dv 3)) (n + 66) := z11.make (by omega) (dv_ref 3 (by decide))
  have w11 : a_sh (a_make (a_fset (hI3 (a_make (a_fset (hI10 (a_make (a_fset (hI2 (a_make (a_fset (hI4 (a_make (a_fset (hI6 (a_make (a_fset (hI1 (a_make (a_fset (hI8 (a_make (a_fset (hI5 (a_make (a_fset (hI5 (a_make (a_fset (hI9 (a_make (a_fset (hI7 (a_make h (1, 7, 7) (a_dv 7)) n (n + 1)) b 0 (.ref n)) (1, 9, 12) (a_dv 9)) (n + 2) (n + 3)) b 1 (.ref (n + 2))) (1, 5, 5) (a_dv 5)) (n + 13) (n + 14)) b 2 (.ref (n + 13))) (1, 5, 5) (a_dv 5)) (n + 18) (n + 19)) b 3 (.ref (n + 18))) (1, 8, 6) (a_dv 8)) (n + 23) (n + 24)) b 4 (.ref (n + 23))) (1, 1, 1) (a_dv 1)) (n + 44) (n + 45)) b 5 (.ref (n + 44))) (1, 6, 2) (a_dv 6)) (n + 46) (n + 47)) b 6 (.ref (n + 46))) (1, 4, 8) (a_dv 4)) (n + 49) (n + 50)) b 7 (.ref (n + 49))) (1, 2, 3) (a_dv 2)) (n + 53) (n + 54)) b 8 (.ref (n + 53))) (1, 10, 4) (a_dv 10)) (n + 54) (n + 55)) b 9 (.ref (n + 54))) (1, 3, 10) (a_dv 3)) (n + 58) (n + 59)) b 10 (.ref (n + 58))) (1, 3, 10) (a_dv 3)) (n + 65) = (1, 3, 10) := by rw [sh_make, g11, if_pos rfl]
  have v11 : ∀ a, a < n → a_sh (a_make (a_fset (hI3 (a_make (a_fset (hI10 (a_make (a_fset (hI2 (a_make (a_fset (hI4 (a_make (a_fset (hI6 (a_make (a_fset (hI1 (a_make (a_fset (hI8 (a_make (a_fset (hI5 (a_make (a_fset (hI5 (a_make (a_fset (hI9 (a_make (a_fset (hI7 (a_make h (1, 7, 7) (a_dv 7)) n (n + 1)) b 0 (.ref n)) (1, 9, 12) (a_dv 9)) (n + 2) (n + 3)) b 1 (.ref (n + 2))) (1, 5, 5) (a_dv 5)) (n + 13) (n + 14)) b 2 (.ref (n + 13))) (1, 5, 5) (a_dv 5)) (n + 18) (n + 19)) b 3 (.ref (n + 18))) (1, 8, 6) (a_dv 8)) (n + 23) (n + 24)) b 4 (.ref (n + 23))) (1, 1, 1) (a_dv 1)) (n + 44) (n + 45)) b 5 (.ref (n + 44))) (1, 6, 2) (a_dv 6)) (n + 46) (n + 47)) b 6 (.ref (n + 46))) (1, 4, 8) (a_dv 4)) (n + 49) (n + 50)) b 7 (.ref (n + 49))) (1, 2, 3) (a_dv 2)) (n + 53) (n + 54)) b 8 (.ref (n + 53))) (1, 10, 4) (a_dv 10)) (n + 54) (n + 55)) b 9 (.ref (n + 54))) (1, 3, 10) (a_dv 3)) (n + 58) (n + 59)) b 10 (.ref (n + 58))) (1, 3, 10) (a_dv 3)) a = a_sh h a := fun a ha => (by rw [sh_make, g11, if_neg (by omega)] : a_sh (a_make (a_fset (hI3 (a_make (a_fset (hI10 (a_make (a_fset (hI2 (a_make (a_fset (hI4 (a_make (a_fset (hI6 (a_make (a_fset (hI1 (a_make (a_fset (hI8 (a_make (a_fset (hI5 (a_make (a_fset (hI5 (a_make (a_fset (hI9 (a_make (a_fset (hI7 (a_make h (1, 7, 7) (a_dv 7)) n (n + 1)) b 0 (.ref n)) (1, 9, 12) (a_dv 9)) (n + 2) (n + 3)) b 1 (.ref (n + 2))) (1, 5, 5) (a_dv 5)) (n + 13) (n + 14)) b 2 (.ref (n + 13))) (1, 5, 5) (a_dv 5)) (n + 18) (n + 19)) b 3 (.ref (n + 18))) (1, 8, 6) (a_dv 8)) (n + 23) (n + 24)) b 4 (.ref (n + 23))) (1, 1, 1) (a_dv 1)) (n + 44) (n + 45)) b 5 (.ref (n + 44))) (1, 6, 2) (a_dv 6)) (n + 46) (n + 47)) b 6 (.ref (n + 46))) (1, 4, 8) (a_dv 4)) (n + 49) (n + 50)) b 7 (.ref (n + 49))) (1, 2, 3) (a_dv 2)) (n + 53) (n + 54)) b 8 (.ref (n + 53))) (1, 10, 4) (a_dv 10)) (n + 54) (n + 55)) b 9 (.ref (n + 54))) (1, 3, 10) (a_dv 3)) (n + 58) (n + 59)) b 10 (.ref (n + 58))) (1, 3, 10) (a_dv 3)) a = a_sh (a_fset (hI3 (a_make (a_fset (hI10 (a_make (a_fset (hI2 (a_make (a_fset (hI4 (a_make (a_fset (hI6 (a_make (a_fset (hI1 (a_make (a_fset (hI8 (a_make (a_fset (hI5 (a_make (a_fset (hI5 (a_make (a_fset (hI9 (a_make (a_fset (hI7 (a_make h (1, 7, 7) (a_dv 7)) n (n + 1)) b 0 (.ref n)) (1, 9, 12) (a_dv 9)) (n + 2) (n + 3)) b 1 (.ref (n + 2))) (1, 5, 5) (a_dv 5)) (n + 13) (n + 14)) b 2 (.ref (n + 13))) (1, 5, 5) (a_dv 5)) (n + 18) (n + 19)) b 3 (.ref (n + 18))) (1, 8, 6) (a_dv 8)) (n + 23) (n + 24)) b 4 (.ref (n + 23))) (1, 1, 1) (a_dv 1)) (n + 44) (n + 45)) b 5 (.ref (n + 44))) (1, 6, 2) (a_dv 6)) (n + 46) (n + 47)) b 6 (.ref (n + 46))) (1, 4, 8) (a_dv 4)) (n + 49) (n + 50)) b 7 (.ref (n + 49))) (1, 2, 3) (a_dv 2)) (n + 53) (n + 54)) b 8 (.ref (n + 53))) (1, 10, 4) (a_dv 10)) (n + 54) (n + 55)) b 9 (.ref (n + 54))) (1, 3, 10) (a_dv 3)) (n + 58) (n + 59)) b 10 (.ref (n + 58))) a).trans (y11 a ha)
  have z12 : CO (a_fset (hI3 (a_make (a_fset (hI3 (a_make (a_fset (hI10 (a_make (a_fset (hI2 (a_make (a_fset (hI4 (a_make (a_fset (hI6 (a_make (a_fset (hI1 (a_make (a_fset (hI8 (a_make (a_fset (hI5 (a_make (a_fset (hI5 (a_make (a_fset (hI9 (a_make (a_fset (hI7 (a_make h (1, 7, 7) (a_dv 7)) n (n + 1)) b 0 (.ref n)) (1, 9, 12) (a_dv 9)) (n + 2) (n + 3)) b 1 (.ref (n + 2))) (1, 5, 5) (a_dv 5)) (n + 13) (n + 14)) b 2 (.ref (n + 13))) (1, 5, 5) (a_dv 5)) (n + 18) (n + 19)) b 3 (.ref (n + 18))) (1, 8, 6) (a_dv 8)) (n + 23) (n + 24)) b 4 (.ref (n + 23))) (1, 1, 1) (a_dv 1)) (n + 44) (n + 45)) b 5 (.ref (n + 44))) (1, 6, 2) (a_dv 6)) (n + 46) (n + 47)) b 6 (.ref (n + 46))) (1, 4, 8) (a_dv 4)) (n + 49) (n + 50)) b 7 (.ref (n + 49))) (1, 2, 3) (a_dv 2)) (n + 53) (n + 54)) b 8 (.ref (n + 53))) (1, 10, 4) (a_dv 10)) (n + 54) (n + 55)) b 9 (.ref (n + 54))) (1, 3, 10) (a_dv 3)) (n + 58) (n + 59)) b 10 (.ref (n + 58))) (1, 3, 10) (a_dv 3)) (n + 65) (n + 66)) b 11 (.ref (n + 65))) (n + 72) := (iI3 (d := 0) (post := fun _ _ => True) m11 (show (n + 65) < n + 66 by omega) (by omega) w11).2.1.fset (by omega)
  have y12 : ∀ a, a < n → a_sh (a_fset (hI3 (a_make (a_fset (hI3 (a_make (a_fset (hI10 (a_make (a_fset (hI2 (a_make (a_fset (hI4 (a_make (a_fset (hI6 (a_make (a_fset (hI1 (a_make (a_fset (hI8 (a_make (a_fset (hI5 (a_make (a_fset (hI5 (a_make (a_fset (hI9 (a_make (a_fset (hI7 (a_make h (1, 7, 7) (a_dv 7)) n (n + 1)) b 0 (.ref n)) (1, 9, 12) (a_dv 9)) (n + 2) (n + 3)) b 1 (.ref (n + 2))) (1, 5, 5) (a_dv 5)) (n + 13) (n + 14)) b 2 (.ref (n + 13))) (1, 5, 5) (a_dv 5)) (n + 18) (n + 19)) b 3 (.ref (n + 18))) (1, 8, 6) (a_dv 8)) (n + 23) (n + 24)) b 4 (.ref (n + 23))) (1, 1, 1) (a_dv 1)) (n + 44) (n + 45)) b 5 (.ref (n + 44))) (1, 6, 2) (a_dv 6)) (n + 46) (n + 47)) b 6 (.ref (n + 46))) (1, 4, 8) (a_dv 4)) (n + 49) (n + 50)) b 7 (.ref (n + 49))) (1, 2, 3) (a_dv 2)) (n + 53) (n + 54)) b 8 (.ref (n + 53))) (1, 10, 4) (a_dv 10)) (n + 54) (n + 55)) b 9 (.ref (n + 54))) (1, 3, 10) (a_dv 3)) (n + 58) (n + 59)) b 10 (.ref (n + 58))) (1, 3, 10) (a_dv 3)) (n + 65) (n + 66)) b 11 (.ref (n + 65))) a = a_sh h a := fun a ha => ((iI3 (d := 0) (post := fun _ _ => True) m11 (show (n + 65) < n + 66 by omega) (by omega) w11).2.2 a (by omega)).trans (v11 a ha)
  refine ⟨?_, z12, y12⟩
  rw [jS132 hb3]
  rw [j132_0 z0 hb_0 hn_0 ((y0 b hb).trans sh)]
  rw [j132_1 z1 hb_1 hn_1 ((y1 b hb).trans sh)]
  rw [j132_2 z2 hb_2 hn_2 ((y2 b hb).trans sh)]
  rw [j132_3 z3 hb_3 hn_3 ((y3 b hb).trans sh)]
  rw [j132_4 z4 hb_4 hn_4 ((y4 b hb).trans sh)]
  rw [j132_5 z5 hb_5 hn_5 ((y5 b hb).trans sh)]
  rw [j132_6 z6 hb_6 hn_6 ((y6 b hb).trans sh)]
  rw [j132_7 z7 hb_7 hn_7 ((y7 b hb).trans sh)]
  rw [j132_8 z8 hb_8 hn_8 ((y8 b hb).trans sh)]
  rw [j132_9 z9 hb_9 hn_9 ((y9 b hb).trans sh)]
  rw [j132_10 z10 hb_10 hn_10 ((y10 b hb).trans sh)]
  rw [j132_11 z11 hb_11 hn_11 ((y11 b hb).trans sh)]
  rw [f132_136]
  unfold hI11
  rfl
