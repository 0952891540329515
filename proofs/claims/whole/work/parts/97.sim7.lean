/-! THE SIMULATION, whole: the abstract machine's runs are the machine's -/
def a_res (P1 P2 : aP) (d ce sl y pc : Nat) (lv : List Value) (h : aH) (post : Option Value → aH → Prop) (o : aO) : Prop := match o with
  | some (.inl (q, ce', sl', pc', lv', st', h')) => q ∧ P1 d ce' sl' y pc' lv' st' h' post
  | some (.inr (.inl (q, pc1, pc2, st'))) => (q → P2 d ce sl y pc1 lv st' h post) ∧ (¬ q → P2 d ce sl y pc2 lv st' h post)
  | some (.inr (.inr (.inl (q, k, as, rest)))) => q ∧ P2 (d - 1) 0 0 k 0 (a_ent as (a_ml k)) [] h (fun r h' => P2 d (ce + a_mc k) (sl + a_ms k) y (pc + 3) lv (r.toList ++ rest) h' post)
  | some (.inr (.inr (.inr (q, r)))) => q ∧ post r h
  | none => False
theorem a_res_elim {α : Type} {P1 P2 : aP} {d ce sl y pc : Nat} {lv : List Value} {h : aH} {post : Option Value → aH → Prop} {o : Option α} {f : α → aO} (k : a_res P1 P2 d ce sl y pc lv h post (o.elim none f)) : ∃ v, o = some v ∧ a_res P1 P2 d ce sl y pc lv h post (f v) := by
  cases o with
  | none => exact False.elim k
  | some v => exact ⟨v, rfl, k⟩
section BI
variable {l : Launch} {D : va_G} {cA : Nat → ClassId} {ex : Value} {L : Nat} {xs : Nat → Int32} {d ce sl y pc : Nat} {lv st : List Value} {h : aH}
theorem s_bi {i : Instr} {x z w : Int32} (hd : decode (a_mb y) pc = .ok (i, 1)) (hv : a_bi i z x = some w) : a_go l D cA ex L xs d ce sl y pc lv (.int x :: .int z :: st) h ce sl (pc + 1) lv (.int w :: st) h := by
  cases i <;> simp only [a_bi, reduceCtorEq] at hv <;> cases hv
  · exact s_iadd hd
  · exact s_iand hd
  · exact s_imul hd
  · exact s_ior hd
  · exact s_ishl hd
  · exact s_ishr hd
  · exact s_isub hd
  · exact s_iushr hd
  · exact s_ixor hd
theorem s_bl {i : Instr} {x z w : Int64} (hd : decode (a_mb y) pc = .ok (i, 1)) (hv : a_bl i z x = some w) : a_go l D cA ex L xs d ce sl y pc lv (.long x :: .long z :: st) h ce sl (pc + 1) lv (.long w :: st) h := by
  cases i <;> simp only [a_bl, reduceCtorEq] at hv <;> cases hv
  · exact s_ladd hd
  · exact s_land hd
  · exact s_lmul hd
  · exact s_lor hd
  · exact s_lsub hd
  · exact s_lxor hd
theorem s_bs {i : Instr} {x : Int32} {z w : Int64} (hd : decode (a_mb y) pc = .ok (i, 1)) (hv : a_bs i z x = some w) : a_go l D cA ex L xs d ce sl y pc lv (.int x :: .long z :: st) h ce sl (pc + 1) lv (.long w :: st) h := by
  cases i <;> simp only [a_bs, reduceCtorEq] at hv <;> cases hv
  · exact s_lshl hd
  · exact s_lshr hd
  · exact s_lushr hd
end BI
theorem a_arr_i (c : ClassId) (N : Nat) : vp_cell c (if (2 : Nat) = 2 then (N, .inl (fun _ => 0)) else (N, .inr (.inl (fun _ => 0)))) = arrV c N (fun _ => .int 0) := rfl
theorem a_arr_l (c : ClassId) (N : Nat) : vp_cell c (if (3 : Nat) = 2 then (N, .inl (fun _ => 0)) else (N, .inr (.inl (fun _ => 0)))) = arrV c N (fun _ => .long 0) := rfl
set_option maxHeartbeats 4000000 in
theorem a_sim_closed (l : Launch) (D : va_G) (cA : Nat → ClassId) (ex : Value) (L : Nat) (xs : Nat → Int32) (he : a_exok ex) : a_closed (a_sim l D cA ex L xs) := by
  intro d ce sl y pc lv st h post k
  have k : a_res (a_sim l D cA ex L xs) (a_sim l D cA ex L xs) d ce sl y pc lv h post (a_step d ce sl y pc lv st h) := k
  unfold a_step at k
  cases hdec : decode (a_mb y) pc with
  | error e => rw [hdec] at k; exact False.elim k
  | ok q =>
    obtain ⟨i, len⟩ := q
    rw [hdec] at k
    dsimp only at k
    unfold a_op at k
    split at k
    · simp only [a_nx, a_res] at k; obtain ⟨rfl, k⟩ := k; exact s_iconst hdec  post k
    · simp only [a_nx, a_res] at k; obtain ⟨⟨rfl, hz⟩, k⟩ := k; exact s_bipush hdec hz post k
    · simp only [a_nx, a_res] at k; obtain ⟨⟨rfl, hz⟩, k⟩ := k; exact s_sipush hdec hz post k
    · simp only [a_nx, a_res] at k; obtain ⟨rfl, k⟩ := k; exact s_lconst hdec  post k
    · split at k
      · rename_i hv; simp only [a_nx, a_res] at k; obtain ⟨rfl, k⟩ := k; exact s_ldcI hdec hv post k
      · rename_i hv; simp only [a_nx, a_res] at k; obtain ⟨rfl, k⟩ := k; exact s_ldcS hdec hv post k
      · exact False.elim k
    · split at k
      · rename_i hv; simp only [a_nx, a_res] at k; obtain ⟨rfl, k⟩ := k; exact s_ldcW hdec hv post k
      · exact False.elim k
    · split at k
      · rename_i hv; simp only [a_nx, a_res] at k; obtain ⟨rfl, k⟩ := k; exact s_ldcL hdec hv post k
      · exact False.elim k
    · replace k := a_res_elim k; obtain ⟨v, hv, k⟩ := k
      simp only [a_nx, a_res] at k; obtain ⟨rfl, k⟩ := k; exact s_iload_n hdec hv post k
    · replace k := a_res_elim k; obtain ⟨v, hv, k⟩ := k
      simp only [a_nx, a_res] at k; obtain ⟨rfl, k⟩ := k; exact s_iload hdec hv post k
    · replace k := a_res_elim k; obtain ⟨v, hv, k⟩ := k
      simp only [a_nx, a_res] at k; obtain ⟨rfl, k⟩ := k; exact s_lload_n hdec hv post k
    · replace k := a_res_elim k; obtain ⟨v, hv, k⟩ := k
      simp only [a_nx, a_res] at k; obtain ⟨rfl, k⟩ := k; exact s_aload_n hdec hv post k
    · replace k := a_res_elim k; obtain ⟨v, hv, k⟩ := k
      simp only [a_nx, a_res] at k; obtain ⟨rfl, k⟩ := k; exact s_aload hdec hv post k
    · simp only [a_nx, a_res] at k; obtain ⟨⟨rfl, hz⟩, k⟩ := k; exact s_istore_n hdec hz post k
    · simp only [a_nx, a_res] at k; obtain ⟨⟨rfl, hz⟩, k⟩ := k; exact s_istore hdec hz post k
    · simp only [a_nx, a_res] at k; obtain ⟨⟨rfl, hz⟩, k⟩ := k; exact s_lstore_n hdec hz post k
    · simp only [a_nx, a_res] at k; obtain ⟨⟨rfl, hz, hz2⟩, k⟩ := k; exact s_astore_n hdec hz hz2 post k
    · simp only [a_nx, a_res] at k; obtain ⟨⟨rfl, hz, hz2⟩, k⟩ := k; exact s_astore hdec hz hz2 post k
    · replace k := a_res_elim k; obtain ⟨v, hv, k⟩ := k
      simp only [a_nx, a_res] at k; obtain ⟨rfl, k⟩ := k; exact s_iinc hdec hv post k
    · simp only [a_nx, a_res] at k; obtain ⟨rfl, k⟩ := k; exact s_ineg hdec  post k
    · simp only [a_nx, a_res] at k; obtain ⟨rfl, k⟩ := k; exact s_i2l hdec  post k
    · simp only [a_nx, a_res] at k; obtain ⟨rfl, k⟩ := k; exact s_l2i hdec  post k
    · simp only [a_nx, a_res] at k; obtain ⟨rfl, k⟩ := k; exact s_i2b hdec  post k
    · simp only [a_nx, a_res] at k; obtain ⟨rfl, k⟩ := k; exact s_i2c hdec  post k
    · simp only [a_nx, a_res] at k; obtain ⟨⟨rfl, hz⟩, k⟩ := k; exact s_idiv hdec hz post k
    · simp only [a_nx, a_res] at k; obtain ⟨⟨rfl, hz⟩, k⟩ := k; exact s_irem hdec hz post k
    · simp only [a_nx, a_res] at k; obtain ⟨rfl, k⟩ := k; exact s_lcmp hdec  post k
    · simp only [a_nx, a_res] at k; obtain ⟨⟨rfl, hz⟩, k⟩ := k; exact s_dup he hdec hz post k
    · simp only [a_nx, a_res] at k; obtain ⟨⟨rfl, hz⟩, k⟩ := k; exact s_pop he hdec hz post k
    · simp only [a_nx, a_res] at k; obtain ⟨⟨rfl, hz, hz2⟩, k⟩ := k; exact s_dup2 he hdec hz hz2 post k
    · replace k := a_res_elim k; obtain ⟨v, hv, k⟩ := k
      simp only [a_nx, a_res] at k; obtain ⟨rfl, k⟩ := k; exact s_goto hdec hv post k
    · replace k := a_res_elim k; obtain ⟨v, hv, k⟩ := k
      split at k
      · rename_i hl; subst hl; simp only [a_fk, a_res] at k; exact s_if hdec hv k.1 k.2
      · exact False.elim k
    · replace k := a_res_elim k; obtain ⟨v, hv, k⟩ := k
      split at k
      · rename_i hl; subst hl; simp only [a_fk, a_res] at k; exact s_icmp hdec hv k.1 k.2
      · exact False.elim k
    · split at k
      · rename_i hx
        replace k := a_res_elim k; obtain ⟨v, hv, k⟩ := k
        simp only [a_nx, a_res] at k
        exact s_swOut hdec hx hv post k.2
      · rename_i hx
        replace k := a_res_elim k; obtain ⟨off, ho, k⟩ := k
        replace k := a_res_elim k; obtain ⟨v, hv, k⟩ := k
        simp only [a_nx, a_res] at k
        exact s_swIn hdec hx ho hv post k.2
    · replace k := a_res_elim k; obtain ⟨v, hv, k⟩ := k
      simp only [a_nx, a_res] at k; obtain ⟨rfl, k⟩ := k; exact s_getstatic hdec hv post k
    · split at k
      · rename_i hv; simp only [a_nx, a_res] at k; obtain ⟨⟨rfl, hs⟩, k⟩ := k; exact s_getfield hdec hv hs post k
      · rename_i hv hv2; simp only [a_nx, a_res] at k; obtain ⟨⟨rfl, hs⟩, k⟩ := k; exact s_getstr hdec hv2 hs post k
      · exact False.elim k
    · split at k
      · rename_i hv; simp only [a_nx, a_res] at k; obtain ⟨⟨rfl, hs, hp⟩, k⟩ := k; exact s_putfield hdec hv hs hp post k
      · exact False.elim k
    · simp only [a_nx, a_res] at k; obtain ⟨⟨rfl, hz⟩, k⟩ := k; exact s_arraylength hdec hz post k
    · simp only [a_nx, a_res] at k; obtain ⟨⟨rfl, z1, z2, z3⟩, k⟩ := k; exact s_iaload hdec z1 z2 z3 post k
    · simp only [a_nx, a_res] at k; obtain ⟨⟨rfl, z1, z2⟩, k⟩ := k; exact s_baload hdec z1 z2 post k
    · simp only [a_nx, a_res] at k; obtain ⟨⟨rfl, z1, z2⟩, k⟩ := k; exact s_laload hdec z1 z2 post k
    · simp only [a_nx, a_res] at k; obtain ⟨⟨rfl, z1, z2, z3⟩, k⟩ := k; exact s_iastore hdec z1 z2 z3 post k
    · simp only [a_nx, a_res] at k; obtain ⟨⟨rfl, z1, z2, z3⟩, k⟩ := k; exact s_bastore hdec z1 z2 z3 post k
    · simp only [a_nx, a_res] at k; obtain ⟨⟨rfl, z1, z2⟩, k⟩ := k; exact s_lastore hdec z1 z2 post k
    · split at k
      · simp only [a_nx, a_res] at k; obtain ⟨⟨rfl, z1, z2, z3, z4, z5⟩, k⟩ := k; exact s_newarray (ti := 0) (ty := .int) hdec z1 z2 z3 z4 z5 rfl rfl (Or.inl ⟨rfl, by decide⟩) (fun c => a_arr_i c _) (by simp [a_misc]) (by decide) (fun U c z => z) post k
      · simp only [a_nx, a_res] at k; obtain ⟨⟨rfl, z1, z2, z3, z4, z5⟩, k⟩ := k; exact s_newarray (ti := 1) (ty := .byte) hdec z1 z2 z3 z4 z5 rfl rfl (Or.inl ⟨rfl, by decide⟩) (fun c => a_arr_i c _) (by simp [a_misc]) (by decide) (fun U c z => z) post k
      · simp only [a_nx, a_res] at k; obtain ⟨⟨rfl, z1, z2, z3, z4, z5⟩, k⟩ := k; exact s_newarray (ti := 2) (ty := .boolean) hdec z1 z2 z3 z4 z5 rfl rfl (Or.inl ⟨rfl, by decide⟩) (fun c => a_arr_i c _) (by simp [a_misc]) (by decide) (fun U c z => z) post k
      · simp only [a_nx, a_res] at k; obtain ⟨⟨rfl, z1, z2, z3, z4, z5⟩, k⟩ := k; exact s_newarray (ti := 3) (ty := .long) hdec z1 z2 z3 z4 z5 rfl rfl (Or.inr ⟨rfl, rfl⟩) (fun c => a_arr_l c _) (by simp [a_misc]) (by decide) (fun U c z => z) post k
      · exact False.elim k
    · replace k := a_res_elim k; obtain ⟨v, hv, k⟩ := k
      simp only [a_nx, a_res] at k
      obtain ⟨⟨rfl, z1, z2, z3⟩, k⟩ := k
      exact s_new hdec hv z1 z2 z3 post k
    · split at k
      · rename_i hv
        split at k
        · rename_i hst
          simp only [a_call, a_cl, a_res] at k
          obtain ⟨⟨⟨rfl, z1, z2⟩, z3, z4, z5, z6, z7, z8⟩, k⟩ := k
          exact s_callV hdec hv hst z1 z2 z3 z4 z5 z6 z7 z8 k
        · exact False.elim k
      · exact False.elim k
    · split at k
      · rename_i hv
        split at k
        · simp only [a_nx, a_res] at k
          obtain ⟨⟨rfl, z1, z2, z3, z4, z5, z6, z7, z8, z9, z10, z11⟩, k⟩ := k
          exact s_copy hdec hv z1 z2 z3 z4 z5 z6 z7 z8 z9 z10 z11 post k
        · exact False.elim k
      · rename_i hv
        split at k
        · simp only [a_nx, a_res] at k; obtain ⟨⟨rfl, z1, z2⟩, k⟩ := k; exact s_mmax hdec hv z1 z2 post k
        · exact False.elim k
      · rename_i hv
        split at k
        · simp only [a_nx, a_res] at k; obtain ⟨⟨rfl, z1, z2⟩, k⟩ := k; exact s_mmin hdec hv z1 z2 post k
        · exact False.elim k
      · rename_i hv
        split at k
        · simp only [a_nx, a_res] at k; obtain ⟨⟨rfl, z1, z2⟩, k⟩ := k; exact s_mabs hdec hv z1 z2 post k
        · exact False.elim k
      · rename_i hv
        split at k
        · simp only [a_nx, a_res] at k; obtain ⟨⟨rfl, z1, z2, z3⟩, k⟩ := k; exact s_mfdiv hdec hv z1 z2 z3 post k
        · exact False.elim k
      · rename_i hv
        simp only [a_call, a_cl, a_res] at k
        obtain ⟨⟨⟨rfl, z1⟩, z3, z4, z5, z6, z7, z8⟩, k⟩ := k
        exact s_callS hdec hv (Or.inl rfl) rfl z1 z3 z4 z5 z6 z7 z8 k
      · rename_i hv
        simp only [a_call, a_cl, a_res] at k
        obtain ⟨⟨⟨rfl, z1⟩, z3, z4, z5, z6, z7, z8⟩, k⟩ := k
        exact s_callS hdec hv (Or.inr rfl) rfl z1 z3 z4 z5 z6 z7 z8 k
      · exact False.elim k
    · split at k
      · rename_i hv
        simp only [a_nx, a_res] at k; obtain ⟨⟨rfl, z1, z2, z3⟩, k⟩ := k; exact s_objInit hdec hv z1 z2 z3 post k
      · rename_i hv
        simp only [a_call, a_cl, a_res] at k
        obtain ⟨⟨⟨rfl, z1, z2⟩, z3, z4, z5, z6, z7, z8⟩, k⟩ := k
        exact s_callI hdec hv (Or.inl rfl) z1 z2 z3 z4 z5 z6 z7 z8 k
      · rename_i hv
        simp only [a_call, a_cl, a_res] at k
        obtain ⟨⟨⟨rfl, z1, z2⟩, z3, z4, z5, z6, z7, z8⟩, k⟩ := k
        exact s_callI hdec hv (Or.inr rfl) z1 z2 z3 z4 z5 z6 z7 z8 k
      · exact False.elim k
    · split at k
      · rename_i hr
        simp only [a_en, a_res] at k
        obtain ⟨⟨rfl, z1, z2⟩, k⟩ := k
        exact s_iret hdec hr z1 k
      · exact False.elim k
    · split at k
      · rename_i hr
        simp only [a_en, a_res] at k
        obtain ⟨rfl, k⟩ := k
        exact s_lret hdec hr k
      · exact False.elim k
    · split at k
      · rename_i hr
        simp only [a_en, a_res] at k
        obtain ⟨⟨rfl, z1, z2⟩, k⟩ := k
        exact s_aret hdec hr z1 z2 k
      · exact False.elim k
    · split at k
      · rename_i hr
        simp only [a_en, a_res] at k
        obtain ⟨rfl, k⟩ := k
        exact s_vret hdec hr k
      · exact False.elim k
    · replace k := a_res_elim k; obtain ⟨v, hv, k⟩ := k
      simp only [a_nx, a_res] at k; obtain ⟨rfl, k⟩ := k; exact s_bi hdec hv post k
    · replace k := a_res_elim k; obtain ⟨v, hv, k⟩ := k
      simp only [a_nx, a_res] at k; obtain ⟨rfl, k⟩ := k; exact s_bl hdec hv post k
    · replace k := a_res_elim k; obtain ⟨v, hv, k⟩ := k
      simp only [a_nx, a_res] at k; obtain ⟨rfl, k⟩ := k; exact s_bs hdec hv post k
    · exact False.elim k
/-- THE SIMULATION -/
theorem a_run {l : Launch} {D : va_G} {cA : Nat → ClassId} {ex : Value} {L : Nat} {xs : Nat → Int32} (he : a_exok ex) {d ce sl y pc : Nat} {lv st : List Value} {h : aH} {post : Option Value → aH → Prop} (k : R d ce sl y pc lv st h post) : a_sim l D cA ex L xs d ce sl y pc lv st h post := k _ (a_sim_mono l D cA ex L xs) (a_sim_closed l D cA ex L xs he)
