/-! shapes of outer rows stay -/
def keepO (h : aH) (o : aO) : Prop := match o with
  | some (.inl (q, _, _, _, _, _, h')) => q → a_sh h' 1000 = a_sh h 1000
  | _ => True
theorem keep_nx {h h' : aH} {q : Prop} {ce sl pc : Nat} {lv st : List Value} (e : q → a_sh h' 1000 = a_sh h 1000) : keepO h (a_nx q ce sl pc lv st h') := e
theorem keep_el {α : Type} {h : aH} {o : Option α} {f : α → aO} (e : ∀ v, keepO h (f v)) : keepO h (o.elim none f) := by
  cases o with
  | none => exact trivial
  | some v => exact e v
theorem keep_mk {h : aH} {q : Nat × Nat × Nat} {f : Nat → Value} (hv : a_vld h) : a_sh (a_make h q f) 1000 = a_sh h 1000 := by
  have := hv.1
  show (if (1000 : Nat) = a_nn h then q else a_sh h 1000) = a_sh h 1000
  rw [if_neg (by omega)]
theorem keep_op {d ce sl y pc : Nat} {lv st : List Value} {h : aH} {i : Instr} {len : Nat} : keepO h (a_op d ce sl y pc lv st h i len) := by
  unfold a_op
  split
  all_goals (repeat' (first | exact trivial | exact keep_nx (fun _ => rfl) | exact keep_nx (fun z => keep_mk z.2.2.2.2.2.2.2) | exact keep_nx (fun z => keep_mk z.2.2.2.2.2) | refine keep_el (fun _ => ?_) | split))
theorem keep_st {d ce sl y pc : Nat} {lv st : List Value} {h : aH} : keepO h (a_step d ce sl y pc lv st h) := by
  unfold a_step
  split
  · exact keep_op
  · exact trivial
theorem R_sh {d ce sl y pc : Nat} {lv st : List Value} {h : aH} {post : Option Value → aH → Prop} (k : R d ce sl y pc lv st h post) : R d ce sl y pc lv st h (fun r h' => post r h' ∧ a_sh h' 1000 = a_sh h 1000) := by
  refine k (fun d ce sl y pc lv st h post => R d ce sl y pc lv st h (fun r h' => post r h' ∧ a_sh h' 1000 = a_sh h 1000)) ?_ ?_
  · intro d ce sl y pc lv st h p1 p2 hp k
    exact R_mono _ _ _ _ _ _ _ _ _ _ (fun r h' z => ⟨hp r h' z.1, z.2⟩) k
  · intro d ce sl y pc lv st h post k
    refine R_closed _ _ _ _ _ _ _ _ _ ?_
    have ks := keep_st (d := d) (ce := ce) (sl := sl) (y := y) (pc := pc) (lv := lv) (st := st) (h := h)
    unfold a_pst at k ⊢
    revert k ks
    rcases a_step d ce sl y pc lv st h with _ | (q | q | q | q)
    · exact fun k _ => k
    · obtain ⟨q, ce', sl', pc', lv', st', h'⟩ := q
      intro k ks
      have e : a_sh h' 1000 = a_sh h 1000 := ks k.1
      exact ⟨k.1, R_mono _ _ _ _ _ _ _ _ _ _ (fun r h2 z => ⟨z.1, z.2.trans e⟩) k.2⟩
    · exact fun k _ => k
    · intro k _
      refine ⟨k.1, R_mono _ _ _ _ _ _ _ _ _ _ (fun r h2 z => ?_) k.2⟩
      exact R_mono _ _ _ _ _ _ _ _ _ _ (fun r h3 y => ⟨y.1, y.2.trans z.2⟩) z.1
    · exact fun k _ => ⟨k.1, k.2, rfl⟩
theorem R_shI {d ce sl y pc : Nat} {lv st : List Value} {h : aH} {post : Option Value → aH → Prop} (k : R d ce sl y pc lv st h (fun r h' => a_sh h' 1000 = a_sh h 1000 → post r h')) : R d ce sl y pc lv st h post := R_mono _ _ _ _ _ _ _ _ _ _ (fun _ _ z => z.1 z.2) (R_sh k)
