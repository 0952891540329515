/-! THE SIMULATION, fourth part: making cells, calls, ends -/
theorem a_rv_new {ex : Value} {aa : Nat → Nat} {n q : Nat} {v : Value} (hn : n < 1000) (hv : a_vd n v) : a_rv ex (fun i => if i = n then q else aa i) v = a_rv ex aa v := by
  cases v <;> try rfl
  rename_i i
  have := hv i rfl
  have hne : ¬ @Eq Nat i n := by omega
  show (if i = 1003 then ex else Value.ref (if i = n then q else aa i)) = _
  rw [if_neg hne]
  rfl
theorem a_make_ne {h : aH} {q : Nat × Nat × Nat} {f : Nat → Value} {i : Nat} (hi : i ≠ a_nn h) : a_sh (a_make h q f) i = a_sh h i ∧ a_fv (a_make h q f) i = a_fv h i ∧ a_ia (a_make h q f) i = a_ia h i ∧ a_la (a_make h q f) i = a_la h i := by
  have : ¬ i = h.2.2.2.2 := hi
  simp [a_make, a_sh, a_fv, a_ia, a_la, this]
theorem a_make_eq {h : aH} {q : Nat × Nat × Nat} {f : Nat → Value} : a_sh (a_make h q f) (a_nn h) = q ∧ a_fv (a_make h q f) (a_nn h) = f ∧ a_ia (a_make h q f) (a_nn h) = (fun _ => 0) ∧ a_la (a_make h q f) (a_nn h) = (fun _ => 0) ∧ a_nn (a_make h q f) = a_nn h + 1 := by
  simp [a_make, a_sh, a_fv, a_ia, a_la, a_nn]
section SIM4
variable {l : Launch} {D : va_G} {cA : Nat → ClassId} {ex : Value} {L : Nat} {xs : Nat → Int32} {d ce sl y pc : Nat} {lv st : List Value} {h : aH}
theorem a_wd.make {aa : Nat → Nat} {H H1 : Heap} {A : Nat → Prop} (w : a_wd D cA ex L xs aa h H A) (hv : a_vld h) {q : Nat} {q3 : Nat × Nat × Nat} {f : Nat → Value} {e : va_E} (hcell : a_cell cA ex (fun i => if i = a_nn h then q else aa i) (a_make h q3 f) (a_nn h) = e) (hq : (q3.1 = 1 ∧ q3.2.2 = a_nf q3.2.1) ∨ (q3.1 = 2 ∧ q3.2.1 < 3) ∨ q3.1 = 3)
    (hP : va_P D vwCl (a_ws cA ex aa h ++ [(q, e)]) H1) (hD : va_D A (a_ws cA ex aa h ++ [(q, e)])) : a_wd D cA ex L xs (fun i => if i = a_nn h then q else aa i) (a_make h q3 f) H1 A := by
  have e1 : a_ws cA ex (fun i => if i = a_nn h then q else aa i) (a_make h q3 f) = a_ws cA ex aa h ++ [(q, e)] := by
    unfold a_ws
    rw [a_make_eq.2.2.2.2, List.range_succ, List.map_append]
    congr 1
    · refine List.map_congr_left fun i hi => ?_
      have hlt := List.mem_range.mp hi
      have hne : i ≠ a_nn h := by omega
      obtain ⟨g1, g2, g3, g4⟩ := a_make_ne (q := q3) (f := f) hne
      refine Prod.ext ?_ ?_
      · simp [hne]
      · show a_cell cA ex _ (a_make h q3 f) i = a_cell cA ex aa h i
        unfold a_cell
        rw [g1, g2, g3, g4]
        congr 3
        refine List.map_congr_left fun k _ => ?_
        exact a_rv_new hv.1 (hv.2 i k)
    · simp only [List.map_cons, List.map_nil, if_true, hcell]
  rw [← e1] at hP hD
  refine ⟨hP, hD, ?_, fun i hi => ?_, fun i hi => ?_⟩
  · rw [a_make_eq.2.2.2.2]; exact hv.1
  · by_cases hn : i = a_nn h
    · subst hn
      refine Or.inr ⟨by rw [a_make_eq.2.2.2.2]; omega, ?_⟩
      rw [a_make_eq.1]
      exact hq
    · have := w.2.2.2.1 i hi
      unfold a_sok at this ⊢
      rw [(a_make_ne hn).1, a_make_eq.2.2.2.2]
      rcases this with g | g
      · exact Or.inl g
      · exact Or.inr ⟨by omega, g.2⟩
  · have hn : i ≠ a_nn h := by have := hv.1; omega
    rw [(a_make_ne hn).1, (a_make_ne hn).2.2.1]
    exact w.2.2.2.2 i hi
theorem a_rl.make {aa : Nat → Nat} {ls : Array Slot} {n q m : Nat} (hm : m < 1000) (k : a_rl ex aa ls n lv) (hv : ∀ v ∈ lv, a_vd m v) : a_rl ex (fun i => if i = m then q else aa i) ls n lv := by
  refine ⟨k.1, k.2.1, k.2.2.1, fun i v hi hn => ?_⟩
  rw [a_rv_new hm (hv v (List.mem_of_getElem? hi))]
  exact k.2.2.2 i v hi hn
theorem a_map_make {aa : Nat → Nat} {q m : Nat} {st : List Value} (hm : m < 1000) (hv : ∀ v ∈ st, a_vd m v) : st.map (a_rv ex (fun i => if i = m then q else aa i)) = st.map (a_rv ex aa) := List.map_congr_left fun v h => a_rv_new hm (hv v h)
theorem a_agr.make {aa aa0 : Nat → Nat} {n0 q m : Nat} (k : a_agr y n0 aa0 aa) (hy : ¬ a_mc y = 0) (hn : n0 ≤ m) (hm : m < 1000) : a_agr y n0 aa0 (fun i => if i = m then q else aa i) := by
  refine ⟨fun z => absurd z hy, fun i hi => ?_⟩
  have : i ≠ m := by omega
  simp only [this, if_false]
  exact k.2 i hi
theorem a_dv_rv {aa : Nat → Nat} (ci k : Nat) : a_rv ex aa (a_dv ci k) = a_dv ci k := by
  unfold a_dv
  generalize (([tyX0, tyX1, tyX2, tyX3, tyX4, tyX5, tyX6, tyX7, tyX8, tyX9, tyX10, tyX11, tyX12] : List (Nat → FieldType)).getD ci tyX0) k = t
  cases t <;> rfl
theorem s_new {n ci : Nat} (hd : decode (a_mb y) pc = .ok (.new n, 3)) (hn : a_nwc (a_mcl y) n = some ci) (hce : ce + 1 ≤ a_mc y) (hsl : sl + a_nf ci ≤ a_ms y) (hf : a_frs lv st h) : a_go l D cA ex L xs d ce sl y pc lv st h (ce + 1) (sl + a_nf ci) (pc + 3) lv (.ref (a_nn h) :: st) (a_make h (1, ci, a_nf ci) (a_dv ci)) := by
  intro post kk p e R s m args below meth c H locs ls A aa aa0 n0 h1 h2 h3 h4 h5 h6 h7 h8 h9 h10
  have hm := a_nwc_of hn
  have hci := a_new_lt _ hm
  obtain ⟨C, T, ty, hC, hok, hnm, hdv⟩ := a_cl_all hci
  obtain ⟨hf1, hf2, hf3⟩ := hf
  have hts := h1.2.2.2.2.2.1
  have w1 := a_wN_in _ hm
  have w2 := a_wN1_in _ hm
  have w3 := a_wN2_in _ hm
  simp only [a_wN, a_wN1, a_wN2, hnm] at w1 w2 w3
  have hRc := h1.2.2.2.2.2.2.2.2.2.2
  refine va_new (ci := ci) (fs := (List.range (a_nf ci)).map (a_dv ci)) h1.1 h1.2.1 hts hok.1 ty hok.2.1 h1.2.2.2.2.1 (hts _ (a_gt_of w1 rfl)) (hts _ (a_gt_of w2 rfl)) (hts _ (a_gt_of w3 rfl)) h2.1 h4.1 h4.2.1 h5 h3 hC ?_ (by rw [hRc.1]; exact hce) (by rw [hRc.2]; exact hsl) hd (fun q H1 hP hD hS => ?_)
  · intro j hj
    unfold vp_V
    rw [List.getD_eq_getElem?_getD]
    simp [hj, hdv]
  · have hw := h4.make hf3 (q := q) (q3 := (1, ci, a_nf ci)) (f := a_dv ci) (e := .inr (ci, (List.range (a_nf ci)).map (a_dv ci))) (by
      unfold a_cell
      rw [a_make_eq.1, a_make_eq.2.1]
      simp only [if_true]
      congr 2
      exact List.map_congr_left fun k _ => a_dv_rv ci k) (Or.inl ⟨rfl, rfl⟩) hP hD
    have r := kk p e R s m args below meth c H1 locs ls A _ aa0 n0 h1 h2 h3 hw hS (h6.make hf3.1 hf1) (h7.make (by omega) h8 hf3.1) (by rw [a_make_eq.2.2.2.2]; omega) hce hsl
    rw [List.map_cons, a_map_make hf3.1 hf2, a_rv_ref (by have := hf3.1; omega)] at r
    simpa using r
theorem s_newarray {t : ArrayType} {q3 : Nat × Nat × Nat} {x : Int32} {ty : FieldType} {ti : Nat} (hd : decode (a_mb y) pc = .ok (.newarray t, 2)) (hx : ¬ x < 0) (hx2 : x.toNatClampNeg ≤ 1000) (hce : ce + 1 ≤ a_mc y) (hsl : sl + x.toNatClampNeg ≤ a_ms y) (hf : a_frs lv st h) (hty : newarray.typeOf t = ty) (hti : (a_tys cA)[ti]? = some (cA ti, ty)) (hq : (q3 = (2, ti, x.toNatClampNeg) ∧ ti < 3) ∨ (q3 = (3, 0, x.toNatClampNeg) ∧ ti = 3)) (hcell : ∀ c, vp_cell c (if q3.1 = 2 then (x.toNatClampNeg, .inl (fun _ => 0)) else (x.toNatClampNeg, .inr (.inl (fun _ => 0)))) = arrV c x.toNatClampNeg (fun _ => defaultValue ty)) (harr : Cond.arrayClass ty ∈ a_misc) (hbytes : componentBytes ty ≤ 8) (hra : ∀ U c, va_RA U c ty → U.vm.findClass ("[" ++ ty.toString) = some c) :
    a_go l D cA ex L xs d ce sl y pc lv (.int x :: st) h (ce + 1) (sl + x.toNatClampNeg) (pc + 2) lv (.ref (a_nn h) :: st) (a_make h q3 (fun _ => .null)) := by
  intro post kk p e R s m args below meth c H locs ls A aa aa0 n0 h1 h2 h3 h4 h5 h6 h7 h8 h9 h10
  obtain ⟨hf1, hf2, hf3⟩ := hf
  have hts := h1.2.2.2.2.2.1
  have hRc := h1.2.2.2.2.2.2.2.2.2.2
  subst hty
  rw [List.map_cons]
  refine va_newa h1.1 h1.2.1 (hts _ (a_gt_of (a_misc_in _ harr) (by cases t <;> rfl))) rfl h2.1 h4.1 h4.2.1 h5 h3 hcell hx rfl (by
    have := Nat.mul_le_mul hx2 hbytes
    omega) (by rw [hRc.1]; exact hce) (by rw [hRc.2]; exact hsl) hd (fun q cq H1 hK hP hD hS => ?_)
  have ec : cq = cA ti := by
    have g1 := hra _ _ (hK.2 4 (cq, newarray.typeOf t) (by simp [a_tys])).2
    have g2 := hra _ _ (h2.1.2 ti _ hti).2
    exact Option.some.inj (g1.symm.trans g2)
  subst ec
  have hw := h4.make hf3 (q := q) (q3 := q3) (f := fun _ => .null) (e := .inl (cA ti, if q3.1 = 2 then (x.toNatClampNeg, .inl (fun _ => 0)) else (x.toNatClampNeg, .inr (.inl (fun _ => 0))))) (by
      unfold a_cell
      rw [a_make_eq.1, a_make_eq.2.2.1, a_make_eq.2.2.2.1]
      rcases hq with ⟨rfl, hh⟩ | ⟨rfl, rfl⟩ <;> simp) (by
      rcases hq with ⟨rfl, hh⟩ | ⟨rfl, rfl⟩
      · exact Or.inr (Or.inl ⟨rfl, hh⟩)
      · exact Or.inr (Or.inr rfl)) hP hD
  have r := kk p e R s m args below meth c H1 locs ls A _ aa0 n0 h1 h2 h3 hw hS (h6.make hf3.1 hf1) (h7.make (by omega) h8 hf3.1) (by rw [a_make_eq.2.2.2.2]; omega) hce hsl
  rw [List.map_cons, a_map_make hf3.1 hf2, a_rv_ref (by have := hf3.1; omega)] at r
  simpa using r
/-- outer things, carried into a call -/
theorem a_env.sub {aa aa0 : Nat → Nat} {A B : Nat → Prop} {s U : State} {H : Heap} {locs : List Loc} (h2 : a_env D cA ex L xs aa0 A s) (h5 : va_S A s.heap H locs) (hU : U.heap = H) (hW : s.WarmedH U.vm) (hAB : ∀ q, B q → A q) (haa : ∀ i, 1000 ≤ i → aa i = aa0 i) : a_env D cA ex L xs aa B U := by
  obtain ⟨e1, e2, e3, e4, e5, e6, e7, e8, e9, e10, e11, e12⟩ := h2
  have hk := h5.2.1
  have hvm := hW.alike
  subst hU
  refine ⟨e1.moved hvm, fun w hw => ?_, e3, ?_, ?_, ?_, ?_, ?_, ((e9.kept hk).narrow hAB).moved hvm, ((e10.kept hk).narrow hAB).moved hvm, fun i hi => ?_, ?_⟩
  · have h0 := e2 w hw
    have hn := (List.mem_filter.mp hw).2
    split at hn
    · exact va_Nw.warmM hW h0
    · cases hn
  · rw [haa 1000 (by omega)]; exact ((e4.kept hk).narrow hAB).moved hvm
  · rw [haa 1001 (by omega)]; exact ((e5.kept hk).narrow hAB).moved hvm
  · rw [haa 1002 (by omega)]; exact ((e6.kept hk).narrow hAB).moved hvm
  · rw [haa 1001 (by omega)]; exact ((e7.kept hk).narrow hAB).moved hvm
  · rw [haa 1002 (by omega)]; exact ((e8.kept hk).narrow hAB).moved hvm
  · rw [haa (1010 + i) (by omega)]; exact (e11 i hi).warm hW
  · have ea : (fun i => aa (1010 + i)) = fun i => aa0 (1010 + i) := funext fun i => haa _ (by omega)
    have eb : (fun i => aa (1020 + i)) = fun i => aa0 (1020 + i) := funext fun i => haa _ (by omega)
    rw [ea, eb]
    exact ((e12.kept hk).narrow hAB).moved hvm
theorem a_env.call {aa : Nat → Nat} {A : Nat → Prop} {U V : State} (h2 : a_env D cA ex L xs aa A U) (hh : V.heap = U.heap) (hv : V.vm = U.vm) : a_env D cA ex L xs aa A V := by
  obtain ⟨e1, e2, e3, e4, e5, e6, e7, e8, e9, e10, e11, e12⟩ := h2
  have hvm : U.vm.Alike V.vm := by rw [hv]; exact Vm.Alike.refl _
  unfold a_env
  rw [hh]
  refine ⟨e1.moved hvm, fun w hw => ?_, e3, e4.moved hvm, e5.moved hvm, e6.moved hvm, e7.moved hvm, e8.moved hvm, e9.moved hvm, e10.moved hvm, fun i hi => (e11 i hi).same hv, e12.moved hvm⟩
  have hn := (List.mem_filter.mp hw).2
  refine va_Nw.same ?_ hv.symm (e2 w hw)
  split at hn
  · rfl
  · cases hn
/-- the locals at a method's entry -/
theorem a_flat_len (aa : Nat → Nat) (he : a_exok ex) (as : List Value) : (lg_sl (as.map (a_rv ex aa))).length = (a_flat as).length := by
  induction as with
  | nil => rfl
  | cons v t ih =>
    have e1 : lg_sl ((v :: t).map (a_rv ex aa)) = (if (a_rv ex aa v).category = 2 then [Slot.val (a_rv ex aa v), Slot.second] else [Slot.val (a_rv ex aa v)]) ++ lg_sl (t.map (a_rv ex aa)) := by simp [lg_sl]
    have e2 : a_flat (v :: t) = (if v.category = 2 then [v, .null] else [v]) ++ a_flat t := by simp [a_flat]
    rw [e1, e2, List.length_append, List.length_append, ih, a_rv_cat he]
    split <;> rfl
theorem a_args_mem (aa : Nat → Nat) (he : a_exok ex) : ∀ (as : List Value) (b i : Nat) (v : Value), (a_flat as)[i]? = some v → v ≠ .null → (b + i, a_rv ex aa v) ∈ lv_args b (as.map (a_rv ex aa)) := by
  intro as
  induction as with
  | nil => intro b i v hi; simp [a_flat] at hi
  | cons w t ih =>
    intro b i v hi hn
    have e2 : a_flat (w :: t) = (if w.category = 2 then [w, .null] else [w]) ++ a_flat t := by simp [a_flat]
    rw [e2] at hi
    rw [List.map_cons, lv_args, a_rv_cat he]
    by_cases hc : w.category = 2
    · rw [if_pos hc] at hi ⊢
      match i, hi with
      | 0, hi => cases hi; exact List.mem_cons_self
      | 1, hi => cases hi; exact absurd rfl hn
      | i + 2, hi =>
        have := ih (b + 2) i v (by simpa using hi) hn
        rw [show b + 2 + i = b + (i + 2) by omega] at this
        exact List.mem_cons_of_mem _ this
    · rw [if_neg hc] at hi ⊢
      match i, hi with
      | 0, hi => cases hi; exact List.mem_cons_self
      | i + 1, hi =>
        have := ih (b + 1) i v (by simpa using hi) hn
        rw [show b + 1 + i = b + (i + 1) by omega] at this
        exact List.mem_cons_of_mem _ this
theorem a_rl.entry {aa : Nat → Nat} {as : List Value} {n : Nat} (he : a_exok ex) (hn : (a_flat as).length ≤ n) : a_rl ex aa ((lg_sl (as.map (a_rv ex aa)) ++ List.replicate (n - (lg_sl (as.map (a_rv ex aa))).length) Slot.unset).toArray) n (a_ent as n) := by
  have hl := lv_entry (as.map (a_rv ex aa)) (n := n) (by rw [a_flat_len aa he]; exact hn)
  refine ⟨by simp [a_ent]; omega, hl.1, hl.2.1, fun i v hi hv => ?_⟩
  have hi' : (a_flat as)[i]? = some v := by
    unfold a_ent at hi
    by_cases hlt : i < (a_flat as).length
    · rwa [List.getElem?_append_left hlt] at hi
    · rw [List.getElem?_append_right (by omega)] at hi
      have := List.mem_of_getElem? hi
      exact absurd (List.eq_of_mem_replicate this) hv
  have := hl.2.2 _ (a_args_mem aa he as 0 i v hi' hv)
  simpa using this
end SIM4
