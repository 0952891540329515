/-! the law's beginning (written by gen9.py) -/
theorem f262_0 {d : Nat} {st : List Value} {h : aH} {post : Option Value → aH → Prop} {l1 l2 l3 : Value} {x0 : Nat} : R d 0 0 262 0 [.ref x0, l1, l2, l3] st h post = (a_frs [.ref x0, l1, l2, l3] st h ∧ R d 1 12 262 3 [.ref x0, l1, l2, l3] (.ref (a_nn h) :: st) (a_make h (1, 11, 12) (a_dv 11)) post) := rr (ev_new (ci := 11) mb262 (by decide +kernel : decode cL_law 0 = .ok (.new 7, 3)) mk262 (by decide +kernel) rfl (Nat.le_of_ble_eq_true rfl) (Nat.le_of_ble_eq_true rfl))
theorem f262_3 {d : Nat} {st : List Value} {h : aH} {post : Option Value → aH → Prop} {l1 l2 l3 : Value} {x0 : Nat} {v : Nat} : R d 1 12 262 3 [.ref x0, l1, l2, l3] (.ref v :: st) h post = ((Value.ref v).category = 1 ∧ R d 1 12 262 4 [.ref x0, l1, l2, l3] (.ref v :: .ref v :: st) h post) := rr (ev_dup mb262 (by decide +kernel : decode cL_law 3 = .ok (.dup, 1)))
theorem f262_4 {d : Nat} {st : List Value} {h : aH} {post : Option Value → aH → Prop} {l1 l2 l3 : Value} {x0 : Nat} {b : Nat} : R (d + 1) 1 12 262 4 [.ref x0, l1, l2, l3] (.ref b :: st) h post = ((b ≠ 1003 ∧ a_cw st ≤ 8 ∧ (72 = 0 ∨ a_frs [.ref x0, l1, l2, l3] st h)) ∧ R d 0 0 132 0 [.ref b] [] h (fun r h' => R (d + 1) 73 1881 262 7 [.ref x0, l1, l2, l3] (r.toList ++ st) h' post)) := rr (ev_callI (q := 3) (ck := 0) (nf := 0) (mk := 72) (sk := 1869) mb262 (by decide +kernel : decode cL_law 4 = .ok (.invokespecial 9, 3)) mk262 (by decide +kernel) (by decide) rfl rfl rfl (Nat.le_of_ble_eq_true rfl) (Nat.le_of_ble_eq_true rfl) (ml := 1) rfl rfl (by simp [a_flat, Value.category]))
theorem f262_7 {d : Nat} {st : List Value} {h : aH} {post : Option Value → aH → Prop} {l1 l2 l3 : Value} {x0 : Nat} {v : Nat} : R d 73 1881 262 7 [.ref x0, l1, l2, l3] (.ref v :: st) h post = (v ≠ 1003 ∧ R d 73 1881 262 8 [a_clr (.ref x0), .ref v, l2, l3] st h post) := rr (ev_astore_n mb262 (by decide +kernel : decode cL_law 7 = .ok (.astore_n 1, 1)) (Nat.le_of_ble_eq_true rfl) rfl)
theorem f262_8 {d : Nat} {st : List Value} {h : aH} {post : Option Value → aH → Prop} {l2 l3 : Value} {x0 x1 : Nat} : R d 73 1881 262 8 [.ref x0, .ref x1, l2, l3] st h post = (a_frs [.ref x0, .ref x1, l2, l3] st h ∧ R d 74 1923 262 11 [.ref x0, .ref x1, l2, l3] (.ref (a_nn h) :: st) (a_make h (1, 12, 42) (a_dv 12)) post) := rr (ev_new (ci := 12) mb262 (by decide +kernel : decode cL_law 8 = .ok (.new 10, 3)) mk262 (by decide +kernel) rfl (Nat.le_of_ble_eq_true rfl) (Nat.le_of_ble_eq_true rfl))
theorem f262_11 {d : Nat} {st : List Value} {h : aH} {post : Option Value → aH → Prop} {l2 l3 : Value} {x0 x1 : Nat} {v : Nat} : R d 74 1923 262 11 [.ref x0, .ref x1, l2, l3] (.ref v :: st) h post = ((Value.ref v).category = 1 ∧ R d 74 1923 262 12 [.ref x0, .ref x1, l2, l3] (.ref v :: .ref v :: st) h post) := rr (ev_dup mb262 (by decide +kernel : decode cL_law 11 = .ok (.dup, 1)))
theorem f262_12 {d : Nat} {st : List Value} {h : aH} {post : Option Value → aH → Prop} {l2 l3 : Value} {x0 x1 : Nat} {b : Nat} : R (d + 1) 74 1923 262 12 [.ref x0, .ref x1, l2, l3] (.ref b :: st) h post = ((b ≠ 1003 ∧ a_cw st ≤ 8 ∧ (26 = 0 ∨ a_frs [.ref x0, .ref x1, l2, l3] st h)) ∧ R d 0 0 173 0 [.ref b] [] h (fun r h' => R (d + 1) 100 3422 262 15 [.ref x0, .ref x1, l2, l3] (r.toList ++ st) h' post)) := rr (ev_callI (q := 3) (ck := 0) (nf := 0) (mk := 26) (sk := 1499) mb262 (by decide +kernel : decode cL_law 12 = .ok (.invokespecial 12, 3)) mk262 (by decide +kernel) (by decide) rfl rfl rfl (Nat.le_of_ble_eq_true rfl) (Nat.le_of_ble_eq_true rfl) (ml := 1) rfl rfl (by simp [a_flat, Value.category]))
theorem f262_15 {d : Nat} {st : List Value} {h : aH} {post : Option Value → aH → Prop} {l2 l3 : Value} {x0 x1 : Nat} {v : Nat} : R d 100 3422 262 15 [.ref x0, .ref x1, l2, l3] (.ref v :: st) h post = (v ≠ 1003 ∧ R d 100 3422 262 16 [.ref x0, a_clr (.ref x1), .ref v, l3] st h post) := rr (ev_astore_n mb262 (by decide +kernel : decode cL_law 15 = .ok (.astore_n 2, 1)) (Nat.le_of_ble_eq_true rfl) rfl)
theorem f262_16 {d : Nat} {st : List Value} {h : aH} {post : Option Value → aH → Prop} {l3 : Value} {x0 x1 x2 : Nat} : R d 100 3422 262 16 [.ref x0, .ref x1, .ref x2, l3] st h post = R d 100 3422 262 17 [.ref x0, .ref x1, .ref x2, l3] (.int (Int32.ofInt 0) :: st) h post := rr (ev_iconst mb262 (by decide +kernel : decode cL_law 16 = .ok (.iconst 0, 1)))
theorem f262_17 {d : Nat} {st : List Value} {h : aH} {post : Option Value → aH → Prop} {l3 : Value} {x0 x1 x2 : Nat} {v : Int32} : R d 100 3422 262 17 [.ref x0, .ref x1, .ref x2, l3] (.int v :: st) h post = R d 100 3422 262 18 [.ref x0, .ref x1, a_clr (.ref x2), .int v] st h post := rr (ev_istore_n mb262 (by decide +kernel : decode cL_law 17 = .ok (.istore_n 3, 1)) (Nat.le_of_ble_eq_true rfl) rfl)
def ov (L : Nat) (xs : Nat → Int32) (h : aH) : aH := (fun a => if a < 1000 then a_sh h a else a_xsh L a, a_fv h, fun a => if a < 1000 then a_ia h a else a_xia xs a, a_la h, a_nn h)
section OVL
variable {L : Nat} {xs : Nat → Int32} {h : aH} {b n k : Nat} {v : Value} {q : Nat × Nat × Nat} {f : Nat → Value}
theorem ov_fset : ov L xs (a_fset h b k v) = a_fset (ov L xs h) b k v := rfl
theorem ov_nn : a_nn (ov L xs h) = a_nn h := rfl
theorem ov_make (hn : a_nn h < 1000) : ov L xs (a_make h q f) = a_make (ov L xs h) q f := by
  have e1 : (fun a => if a < 1000 then a_sh (a_make h q f) a else a_xsh L a) = (fun a => if a = a_nn h then q else if a < 1000 then a_sh h a else a_xsh L a) := by
    funext a
    rw [sh_make]
    by_cases c : a = a_nn h
    · rw [if_pos c, if_pos (by omega), if_pos c]
    · rw [if_neg c, if_neg c]
  have e2 : (fun a => if a < 1000 then a_ia (a_make h q f) a else a_xia xs a) = (fun a => if a = a_nn h then (fun _ => 0) else if a < 1000 then a_ia h a else a_xia xs a) := by
    funext a
    show (if a < 1000 then (if a = a_nn h then (fun _ => 0) else a_ia h a) else a_xia xs a) = _
    by_cases c : a = a_nn h
    · rw [if_pos c, if_pos (by omega), if_pos c]
    · rw [if_neg c, if_neg c]
  unfold ov
  rw [e1, e2]
  rfl
theorem nnI1 : a_nn (hI1 h b n) = a_nn h + 1 := by
  simp only [hI1, blk, nn_fset, nn_make, Nat.add_assoc, Nat.reduceAdd]
theorem ovI1 (hn : a_nn h + 1 < 1000) : ov L xs (hI1 h b n) = hI1 (ov L xs h) b n := by
  simp (disch := ((try simp only [nn_fset, nn_make]); omega)) only [hI1, blk, ov_fset, ov_make]
theorem nnI2 : a_nn (hI2 h b n) = a_nn h + 0 := by
  simp only [hI2, blk, nn_fset, nn_make, Nat.add_assoc, Nat.reduceAdd, Nat.add_zero]
theorem ovI2 (hn : a_nn h + 0 < 1000) : ov L xs (hI2 h b n) = hI2 (ov L xs h) b n := by
  simp (disch := ((try simp only [nn_fset, nn_make]); omega)) only [hI2, blk, ov_fset, ov_make]
theorem nnI3 : a_nn (hI3 h b n) = a_nn h + 6 := by
  simp only [hI3, blk, nn_fset, nn_make, Nat.add_assoc, Nat.reduceAdd]
theorem ovI3 (hn : a_nn h + 6 < 1000) : ov L xs (hI3 h b n) = hI3 (ov L xs h) b n := by
  simp (disch := ((try simp only [nn_fset, nn_make]); omega)) only [hI3, blk, ov_fset, ov_make]
theorem nnI4 : a_nn (hI4 h b n) = a_nn h + 3 := by
  simp only [hI4, blk, nn_fset, nn_make, Nat.add_assoc, Nat.reduceAdd]
theorem ovI4 (hn : a_nn h + 3 < 1000) : ov L xs (hI4 h b n) = hI4 (ov L xs h) b n := by
  simp (disch := ((try simp only [nn_fset, nn_make]); omega)) only [hI4, blk, ov_fset, ov_make]
theorem nnI5 : a_nn (hI5 h b n) = a_nn h + 4 := by
  simp only [hI5, blk, nn_fset, nn_make, Nat.add_assoc, Nat.reduceAdd]
theorem ovI5 (hn : a_nn h + 4 < 1000) : ov L xs (hI5 h b n) = hI5 (ov L xs h) b n := by
  simp (disch := ((try simp only [nn_fset, nn_make]); omega)) only [hI5, blk, ov_fset, ov_make]
theorem nnI6 : a_nn (hI6 h b n) = a_nn h + 2 := by
  simp only [hI6, blk, nn_fset, nn_make, Nat.add_assoc, Nat.reduceAdd]
theorem ovI6 (hn : a_nn h + 2 < 1000) : ov L xs (hI6 h b n) = hI6 (ov L xs h) b n := by
  simp (disch := ((try simp only [nn_fset, nn_make]); omega)) only [hI6, blk, ov_fset, ov_make]
theorem nnI7 : a_nn (hI7 h b n) = a_nn h + 1 := by
  simp only [hI7, blk, nn_fset, nn_make, Nat.add_assoc, Nat.reduceAdd]
theorem ovI7 (hn : a_nn h + 1 < 1000) : ov L xs (hI7 h b n) = hI7 (ov L xs h) b n := by
  simp (disch := ((try simp only [nn_fset, nn_make]); omega)) only [hI7, blk, ov_fset, ov_make]
theorem nnI9 : a_nn (hI9 h b n) = a_nn h + 10 := by
  simp only [hI9, blk, nn_fset, nn_make, Nat.add_assoc, Nat.reduceAdd]
theorem ovI9 (hn : a_nn h + 10 < 1000) : ov L xs (hI9 h b n) = hI9 (ov L xs h) b n := by
  simp (disch := ((try simp only [nn_fset, nn_make]); omega)) only [hI9, blk, ov_fset, ov_make]
theorem nnI10 : a_nn (hI10 h b n) = a_nn h + 3 := by
  simp only [hI10, blk, nn_fset, nn_make, Nat.add_assoc, Nat.reduceAdd]
theorem ovI10 (hn : a_nn h + 3 < 1000) : ov L xs (hI10 h b n) = hI10 (ov L xs h) b n := by
  simp (disch := ((try simp only [nn_fset, nn_make]); omega)) only [hI10, blk, ov_fset, ov_make]
theorem nnI0 : a_nn (hI0 h b n) = a_nn h + 9 := by
  simp only [hI0, blk, nn_fset, nn_make, nnI1, Nat.add_assoc, Nat.reduceAdd]
theorem ovI0 (hn : a_nn h + 9 < 1000) : ov L xs (hI0 h b n) = hI0 (ov L xs h) b n := by
  simp (disch := ((try simp only [nn_fset, nn_make, nnI1]); omega)) only [hI0, blk, ov_fset, ov_make, ovI1]
theorem nnI8 : a_nn (hI8 h b n) = a_nn h + 20 := by
  simp only [hI8, blk, nn_fset, nn_make, nnI0, Nat.add_assoc, Nat.reduceAdd]
theorem ovI8 (hn : a_nn h + 20 < 1000) : ov L xs (hI8 h b n) = hI8 (ov L xs h) b n := by
  simp (disch := ((try simp only [nn_fset, nn_make, nnI0]); omega)) only [hI8, blk, ov_fset, ov_make, ovI0]
theorem nnI12 : a_nn (hI12 h b n) = a_nn h + 26 := by
  simp only [hI12, blk, nn_fset, nn_make, Nat.add_assoc, Nat.reduceAdd]
theorem ovI12 (hn : a_nn h + 26 < 1000) : ov L xs (hI12 h b n) = hI12 (ov L xs h) b n := by
  simp (disch := ((try simp only [nn_fset, nn_make]); omega)) only [hI12, blk, ov_fset, ov_make]
theorem nnI11 : a_nn (hI11 h b n) = a_nn h + 72 := by
  simp only [hI11, blk, nn_fset, nn_make, nnI1, nnI2, nnI3, nnI4, nnI5, nnI6, nnI7, nnI8, nnI9, nnI10, Nat.add_assoc, Nat.reduceAdd]
theorem ovI11 (hn : a_nn h + 72 < 1000) : ov L xs (hI11 h b n) = hI11 (ov L xs h) b n := by
  simp (disch := ((try simp only [nn_fset, nn_make, nnI1, nnI2, nnI3, nnI4, nnI5, nnI6, nnI7, nnI8, nnI9, nnI10]); omega)) only [hI11, blk, ov_fset, ov_make, ovI1, ovI2, ovI3, ovI4, ovI5, ovI6, ovI7, ovI8, ovI9, ovI10]
end OVL
/-- nothing is made yet -/
def hN : aH := (fun _ => (0, 0, 0), fun _ _ => .null, fun _ _ => 0, fun _ _ => 0, 0)
def hP : aH := hI11 (a_make hN (1, 11, 12) (a_dv 11)) 0 1
def hW : aH := hI12 (a_make hP (1, 12, 42) (a_dv 12)) 73 74
theorem co0 {L : Nat} {xs : Nat → Int32} : CO (ov L xs hN) 0 := ⟨⟨show 0 < 1000 by omega, fun a k r e => by cases e⟩, rfl⟩
theorem law_start {d L : Nat} {xs : Nat → Int32} {post : Option Value → aH → Prop} : R (d + 5) 0 0 262 0 [.ref 1000, .null, .null, .null] [] (ov L xs hN) post = R (d + 5) 100 3422 262 18 [.ref 1000, .ref 0, .ref 73, .int (I 0)] [] (ov L xs hW) post := by
  have c0 := co0 (L := L) (xs := xs)
  have g0 : a_nn (ov L xs hN) = 0 := rfl
  have f0 : a_frs [.ref 1000, .null, .null, .null] [] (ov L xs hN) = True := eq_true (frs1 c0 (fun v hv r e => by simp at hv; rcases hv with hv | hv <;> (subst hv; cases e); omega) (fun v hv => by cases hv))
  have m1 : CO (a_make (ov L xs hN) (1, 11, 12) (a_dv 11)) 1 := c0.make (by omega) (dv_ref 11 (by decide))
  have w1 : a_sh (a_make (ov L xs hN) (1, 11, 12) (a_dv 11)) 0 = (1, 11, 12) := by rw [sh_make, g0, if_pos rfl]
  have k1 := fun d post => (iI11 (d := d) (post := post) m1 (show 0 < 1 by omega) (by omega) w1).1
  have l1 := (iI11 (d := 0) (post := fun _ _ => True) m1 (show 0 < 1 by omega) (by omega) w1).2.1
  have e1 : ov L xs hP = hI11 (a_make (ov L xs hN) (1, 11, 12) (a_dv 11)) 0 1 := by
    unfold hP
    rw [ovI11 (by decide), ov_make (by decide)]
  rw [← e1] at k1 l1
  have q1 : a_frs [.ref 1000, .null, .null, .null] [.ref 0] (a_make (ov L xs hN) (1, 11, 12) (a_dv 11)) = True := eq_true (frs1 m1 (fun v hv r e => by simp at hv; rcases hv with hv | hv <;> (subst hv; cases e); omega) (fun v hv r e => by simp at hv; subst hv; cases e; omega))
  have g1 : a_nn (ov L xs hP) = 73 := l1.2
  have f1 : a_frs [.ref 1000, .ref 0, .null, .null] [] (ov L xs hP) = True := eq_true (frs1 l1 (fun v hv r e => by simp at hv; rcases hv with hv | hv | hv <;> (subst hv; cases e) <;> omega) (fun v hv => by cases hv))
  have m2 : CO (a_make (ov L xs hP) (1, 12, 42) (a_dv 12)) 74 := l1.make (by omega) (dv_ref 12 (by decide))
  have w2 : a_sh (a_make (ov L xs hP) (1, 12, 42) (a_dv 12)) 73 = (1, 12, 42) := by rw [sh_make, g1, if_pos rfl]
  have k2 := fun d post => (iI12 (d := d) (post := post) m2 (show 73 < 74 by omega) (by omega) w2).1
  have e2 : ov L xs hW = hI12 (a_make (ov L xs hP) (1, 12, 42) (a_dv 12)) 73 74 := by
    unfold hW
    rw [ovI12 (by have : a_nn hP = 73 := g1; rw [nn_make, this]; omega), ov_make (by have : a_nn hP = 73 := g1; omega)]
  rw [← e2] at k2
  have q2 : a_frs [.ref 1000, .ref 0, .null, .null] [.ref 73] (a_make (ov L xs hP) (1, 12, 42) (a_dv 12)) = True := eq_true (frs1 m2 (fun v hv r e => by simp at hv; rcases hv with hv | hv | hv <;> (subst hv; cases e) <;> omega) (fun v hv r e => by simp at hv; subst hv; cases e; omega))
  simp only [f262_0, f262_3, f262_4, f262_7, f262_8, f262_11, f262_12, f262_15, f262_16, f262_17, g0, f0, k1, q1, g1, f1, k2, q2, a_clr, Option.toList_some, Option.toList_none, List.cons_append, List.nil_append, a_cw, List.map_cons, List.map_nil, List.sum_cons, List.sum_nil, Value.category, ne_eq, not_false_eq_true, true_and, and_true, Nat.reduceLeDiff, Nat.reduceAdd, Nat.reduceEqDiff, or_true, true_or, false_or, and_self, a_sh_fset, Nat.reduceEqDiff]
