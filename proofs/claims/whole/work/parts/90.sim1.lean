/-! THE SIMULATION, first part: how abstract states stand for the machine's -/
def a_gt : List Cond := lw_tbl.filter goodWord
def a_nst : List Cond := lw_tbl.filter (fun w => match w with | .methodLinkNest _ _ _ _ => true | _ => false)
/-- the outer rows: the script, two static rows, the bytes of eight texts -/
def a_rv (ex : Value) (aa : Nat → Nat) (v : Value) : Value := match v with
  | .ref i => if i = 1003 then ex else .ref (aa i)
  | w => w
def a_exok (ex : Value) : Prop := ex = .null ∨ ∃ t, ex = .ref t
theorem a_rv_cat {ex : Value} {aa : Nat → Nat} (he : a_exok ex) (v : Value) : (a_rv ex aa v).category = v.category := by
  cases v <;> try rfl
  rename_i i
  by_cases h : i = 1003
  · rcases he with he | ⟨t, he⟩ <;> simp [a_rv, h, he, Value.category]
  · simp [a_rv, h, Value.category]
theorem a_cw_rv {ex : Value} {aa : Nat → Nat} (he : a_exok ex) (st : List Value) : ((st.map (a_rv ex aa)).map fun v => v.category).sum = a_cw st := by
  unfold a_cw
  rw [List.map_map]
  congr 1
  exact List.map_congr_left fun v _ => a_rv_cat he v
def a_cell (cA : Nat → ClassId) (ex : Value) (aa : Nat → Nat) (h : aH) (i : Nat) : va_E :=
  if (a_sh h i).1 = 1 then .inr ((a_sh h i).2.1, (List.range (a_sh h i).2.2).map (fun k => a_rv ex aa (a_fv h i k)))
  else if (a_sh h i).1 = 2 then .inl (cA (a_sh h i).2.1, (a_sh h i).2.2, .inl (a_ia h i))
  else .inl (cA 3, (a_sh h i).2.2, .inr (.inl (a_la h i)))
def a_ws (cA : Nat → ClassId) (ex : Value) (aa : Nat → Nat) (h : aH) : va_W := (List.range (a_nn h)).map (fun i => (aa i, a_cell cA ex aa h i))
theorem a_ws_get {cA : Nat → ClassId} {ex : Value} {aa : Nat → Nat} {h : aH} {i : Nat} (hi : i < a_nn h) : (a_ws cA ex aa h)[i]? = some (aa i, a_cell cA ex aa h i) := by
  simp [a_ws, hi]
def a_tys (cA : Nat → ClassId) : List (ClassId × FieldType) := [(cA 0, .int), (cA 1, .byte), (cA 2, .boolean), (cA 3, .long)]
def a_sok (h : aH) (i : Nat) : Prop := (a_sh h i).1 = 0 ∨ (i < a_nn h ∧ (((a_sh h i).1 = 1 ∧ (a_sh h i).2.2 = a_nf (a_sh h i).2.1) ∨ ((a_sh h i).1 = 2 ∧ (a_sh h i).2.1 < 3) ∨ (a_sh h i).1 = 3))
def a_wd (D : va_G) (cA : Nat → ClassId) (ex : Value) (L : Nat) (xs : Nat → Int32) (aa : Nat → Nat) (h : aH) (H : Heap) (A : Nat → Prop) : Prop :=
  va_P D vwCl (a_ws cA ex aa h) H ∧ va_D A (a_ws cA ex aa h) ∧ a_nn h ≤ 1000 ∧ (∀ i, i < 1000 → a_sok h i) ∧ ∀ i, 1000 ≤ i → a_sh h i = a_xsh L i ∧ a_ia h i = a_xia xs i
theorem a_xsh_k (L i : Nat) : (a_xsh L i).1 = 0 ∨ (a_xsh L i).1 = 4 := by
  unfold a_xsh
  split
  · exact Or.inr rfl
  · split
    · exact Or.inr rfl
    · split
      · exact Or.inr rfl
      · exact Or.inl rfl
section SIM1
variable {D : va_G} {cA : Nat → ClassId} {ex : Value} {L : Nat} {xs : Nat → Int32} {aa : Nat → Nat} {h : aH} {H : Heap} {A : Nat → Prop}
theorem a_wd.lt (w : a_wd D cA ex L xs aa h H A) {i : Nat} (hk : (a_sh h i).1 = 1 ∨ (a_sh h i).1 = 2 ∨ (a_sh h i).1 = 3) : i < a_nn h ∧ i < 1000 := by
  by_cases hi : i < 1000
  · rcases w.2.2.2.1 i hi with h0 | h0
    · omega
    · exact ⟨h0.1, hi⟩
  · have h1 := (w.2.2.2.2 i (by omega)).1
    rcases a_xsh_k L i with h2 | h2 <;> rw [h1, h2] at hk <;> omega
theorem a_wd.obj (w : a_wd D cA ex L xs aa h H A) {r ci : Nat} (hs : a_sh h r = (1, ci, a_nf ci)) : (a_ws cA ex aa h)[r]? = some (aa r, .inr (ci, (List.range (a_nf ci)).map (fun k => a_rv ex aa (a_fv h r k)))) := by
  rw [a_ws_get (w.lt (by rw [hs]; exact Or.inl rfl)).1]
  simp [a_cell, hs]
theorem a_wd.ints (w : a_wd D cA ex L xs aa h H A) {r : Nat} (hs : (a_sh h r).1 = 2) : (a_ws cA ex aa h)[r]? = some (aa r, .inl (cA (a_sh h r).2.1, (a_sh h r).2.2, .inl (a_ia h r))) ∧ (a_sh h r).2.1 < 3 := by
  have hl := w.lt (Or.inr (Or.inl hs))
  refine ⟨?_, ?_⟩
  · rw [a_ws_get hl.1]
    simp [a_cell, hs]
  · rcases w.2.2.2.1 r hl.2 with h0 | ⟨-, h0 | h0 | h0⟩
    · omega
    · omega
    · exact h0.2
    · omega
theorem a_wd.longs (w : a_wd D cA ex L xs aa h H A) {r : Nat} (hs : (a_sh h r).1 = 3) : (a_ws cA ex aa h)[r]? = some (aa r, .inl (cA 3, (a_sh h r).2.2, .inr (.inl (a_la h r)))) := by
  rw [a_ws_get (w.lt (Or.inr (Or.inr hs))).1]
  simp [a_cell, hs]
theorem a_set_range {α : Type} (n : Nat) (f g : Nat → α) (r : Nat) (hr : r < n) (hne : ∀ i, i ≠ r → f i = g i) : ((List.range n).map f).set r (g r) = (List.range n).map g := by
  apply List.ext_getElem?
  intro i
  rw [List.getElem?_set]
  by_cases hi : r = i
  · subst hi; simp [hr]
  · rw [if_neg hi]
    simp only [List.getElem?_map]
    by_cases hn : i < n
    · simp [hn, hne i (fun q => hi q.symm)]
    · simp [hn]
/-- behind a write -/
theorem a_wd.wr (w : a_wd D cA ex L xs aa h H A) {h' : aH} {r : Nat} {H1 : Heap} (hr : r < a_nn h) (hr2 : r < 1000) (hn : a_nn h' = a_nn h) (hsh : a_sh h' = a_sh h) (hia : ∀ i, i ≠ r → a_ia h' i = a_ia h i) (hoth : ∀ i, i ≠ r → a_cell cA ex aa h i = a_cell cA ex aa h' i)
    (hP : va_P D vwCl ((a_ws cA ex aa h).set r (aa r, a_cell cA ex aa h' r)) H1) (hD : va_D A ((a_ws cA ex aa h).set r (aa r, a_cell cA ex aa h' r))) : a_wd D cA ex L xs aa h' H1 A := by
  have e : (a_ws cA ex aa h).set r (aa r, a_cell cA ex aa h' r) = a_ws cA ex aa h' := by
    unfold a_ws
    rw [hn]
    exact a_set_range (a_nn h) _ (fun i => (aa i, a_cell cA ex aa h' i)) r hr (fun i hi => by rw [hoth i hi])
  rw [e] at hP hD
  refine ⟨hP, hD, by rw [hn]; exact w.2.2.1, fun i hi => ?_, fun i hi => ?_⟩
  · have := w.2.2.2.1 i hi
    unfold a_sok at this ⊢
    rw [hsh, hn]
    exact this
  · rw [hsh, hia i (by omega)]
    exact w.2.2.2.2 i hi
theorem a_wd.fset (w : a_wd D cA ex L xs aa h H A) {r ci k : Nat} {v : Value} {H1 : Heap} (hs : a_sh h r = (1, ci, a_nf ci)) (hP : va_P D vwCl ((a_ws cA ex aa h).set r (aa r, .inr (ci, ((List.range (a_nf ci)).map (fun k => a_rv ex aa (a_fv h r k))).set k (a_rv ex aa v)))) H1) (hD : va_D A ((a_ws cA ex aa h).set r (aa r, .inr (ci, ((List.range (a_nf ci)).map (fun k => a_rv ex aa (a_fv h r k))).set k (a_rv ex aa v))))) (hk : k < a_nf ci) : a_wd D cA ex L xs aa (a_fset h r k v) H1 A := by
  have hl := w.lt (i := r) (by rw [hs]; exact Or.inl rfl)
  have e : a_cell cA ex aa (a_fset h r k v) r = .inr (ci, ((List.range (a_nf ci)).map (fun k => a_rv ex aa (a_fv h r k))).set k (a_rv ex aa v)) := by
    have hs' : a_sh (a_fset h r k v) r = (1, ci, a_nf ci) := hs
    simp only [a_cell, hs', if_true]
    congr 2
    have := a_set_range (a_nf ci) (fun k => a_rv ex aa (a_fv h r k)) (fun j => a_rv ex aa (a_fv (a_fset h r k v) r j)) k hk (fun i hi => by simp [a_fset, a_fv, hi])
    rw [← this]
    congr 1
    simp [a_fset, a_fv]
  rw [← e] at hP hD
  refine w.wr hl.1 hl.2 rfl rfl (fun i hi => rfl) (fun i hi => ?_) hP hD
  have e1 : a_fv (a_fset h r k v) i = a_fv h i := by funext j; simp [a_fv, a_fset, hi]
  unfold a_cell
  rw [e1]
  rfl
theorem a_wd.iall (w : a_wd D cA ex L xs aa h H A) {r : Nat} {f : Nat → Int32} {H1 : Heap} (hs : (a_sh h r).1 = 2) (hP : va_P D vwCl ((a_ws cA ex aa h).set r (aa r, .inl (cA (a_sh h r).2.1, (a_sh h r).2.2, .inl f))) H1) (hD : va_D A ((a_ws cA ex aa h).set r (aa r, .inl (cA (a_sh h r).2.1, (a_sh h r).2.2, .inl f)))) : a_wd D cA ex L xs aa (a_iall h r f) H1 A := by
  have hl := w.lt (Or.inr (Or.inl hs))
  have e : a_cell cA ex aa (a_iall h r f) r = .inl (cA (a_sh h r).2.1, (a_sh h r).2.2, .inl f) := by
    have hs' : (a_sh (a_iall h r f) r).1 = 2 := hs
    have h1 : ¬ (a_sh (a_iall h r f) r).1 = 1 := by omega
    simp only [a_cell, hs', if_true]
    simp [a_iall, a_sh, a_ia]
  rw [← e] at hP hD
  refine w.wr hl.1 hl.2 rfl rfl (fun i hi => by simp [a_ia, a_iall, hi]) (fun i hi => ?_) hP hD
  have e1 : a_ia (a_iall h r f) i = a_ia h i := by simp [a_ia, a_iall, hi]
  unfold a_cell
  rw [e1]
  rfl
theorem a_wd.lall (w : a_wd D cA ex L xs aa h H A) {r : Nat} {f : Nat → Int64} {H1 : Heap} (hs : (a_sh h r).1 = 3) (hP : va_P D vwCl ((a_ws cA ex aa h).set r (aa r, .inl (cA 3, (a_sh h r).2.2, .inr (.inl f)))) H1) (hD : va_D A ((a_ws cA ex aa h).set r (aa r, .inl (cA 3, (a_sh h r).2.2, .inr (.inl f))))) : a_wd D cA ex L xs aa (a_lall h r f) H1 A := by
  have hl := w.lt (Or.inr (Or.inr hs))
  have e : a_cell cA ex aa (a_lall h r f) r = .inl (cA 3, (a_sh h r).2.2, .inr (.inl f)) := by
    have hs' : (a_sh (a_lall h r f) r).1 = 3 := hs
    simp only [a_cell, hs']
    simp [a_lall, a_sh, a_la]
  rw [← e] at hP hD
  refine w.wr hl.1 hl.2 rfl rfl (fun i hi => rfl) (fun i hi => ?_) hP hD
  have e1 : a_la (a_lall h r f) i = a_la h i := by simp [a_la, a_lall, hi]
  unfold a_cell
  rw [e1]
  rfl
/-- locals -/
def a_rl (ex : Value) (aa : Nat → Nat) (ls : Array Slot) (n : Nat) (L : List Value) : Prop := L.length = n ∧ ls.size = n ∧ lv_wf ls ∧ ∀ (i : Nat) (v : Value), L[i]? = some v → v ≠ .null → ls[i]? = some (.val (a_rv ex aa v))
def a_enl (ex : Value) (aa : Nat → Nat) (L : List Value) : List (Nat × Value) := (L.zipIdx.filter (fun q => decide (q.1 ≠ .null))).map (fun q => (q.2, a_rv ex aa q.1))
theorem a_enl_mem {ex : Value} {aa : Nat → Nat} {L : List Value} {q : Nat × Value} : q ∈ a_enl ex aa L ↔ ∃ v, L[q.1]? = some v ∧ v ≠ .null ∧ q.2 = a_rv ex aa v := by
  obtain ⟨i, w⟩ := q
  simp only [a_enl, List.mem_map, List.mem_filter, Prod.mk.injEq, Prod.exists]
  constructor
  · rintro ⟨v, j, ⟨h1, h2⟩, h3, h4⟩
    rw [List.mem_zipIdx_iff_getElem?] at h1
    exact ⟨v, by rw [← h3]; exact h1, of_decide_eq_true h2, h4.symm⟩
  · rintro ⟨v, h1, h2, h3⟩
    exact ⟨v, i, ⟨List.mem_zipIdx_iff_getElem?.mpr h1, decide_eq_true h2⟩, rfl, h3.symm⟩
theorem a_rl.has {ls : Array Slot} {n : Nat} {L : List Value} (k : a_rl ex aa ls n L) : lv_has ls n (a_enl ex aa L) := by
  refine ⟨k.2.1, k.2.2.1, fun q hq => ?_⟩
  obtain ⟨v, h1, h2, h3⟩ := a_enl_mem.mp hq
  rw [h3]
  exact k.2.2.2 _ _ h1 h2
theorem a_rl.st1 {ls ls' : Array Slot} {n i : Nat} {L : List Value} {v : Value} (he : a_exok ex) (k : a_rl ex aa ls n L) (hi : i < n) (h' : lv_has ls' n ((i, a_rv ex aa v) :: (a_enl ex aa L).filter (fun q => !(q.1 == i) && !(q.1 + 1 == i && q.2.category == 2)))) : a_rl ex aa ls' n (a_st1 L i v) := by
  refine ⟨?_, h'.1, h'.2.1, fun j w hj hw => ?_⟩
  · have := k.1
    cases i <;> simp [a_st1, this]
  · by_cases hji : j = i
    · subst hji
      have : w = v := by
        cases j <;> simp [a_st1, List.getElem?_set] at hj <;> exact hj.2.symm
      subst this
      exact h'.2.2 (j, a_rv ex aa w) List.mem_cons_self
    · have hin : L[j]? = some w ∧ (j + 1 = i → ¬ w.category = 2) := by
        cases i with
        | zero =>
          simp [a_st1, List.getElem?_set, Ne.symm hji] at hj
          exact ⟨hj, fun q => by omega⟩
        | succ i =>
          simp only [a_st1] at hj
          rw [List.getElem?_set_ne (Ne.symm hji)] at hj
          by_cases hjj : i = j
          · subst hjj
            rw [List.getElem?_set] at hj
            simp only [if_true] at hj
            split at hj
            · rename_i hl
              have hw2 : a_clr (L.getD i .null) = w := Option.some.inj hj
              have hg : L[i]? = some (L.getD i .null) := by
                rw [List.getD_eq_getElem?_getD, List.getElem?_eq_getElem hl]; rfl
              cases hx : L.getD i .null <;> rw [hx] at hw2 hg <;> simp only [a_clr] at hw2 <;> first | exact absurd hw2.symm hw | (subst hw2; exact ⟨hg, fun _ => by simp [Value.category]⟩)
            · cases hj
          · rw [List.getElem?_set_ne hjj] at hj
            exact ⟨hj, fun q => by omega⟩
      refine h'.2.2 (j, a_rv ex aa w) (List.mem_cons_of_mem _ (List.mem_filter.mpr ⟨a_enl_mem.mpr ⟨w, hin.1, hw, rfl⟩, ?_⟩))
      simp only [Bool.and_eq_true, Bool.not_eq_true', beq_eq_false_iff_ne, Bool.and_eq_false_iff, ne_eq]
      refine ⟨hji, ?_⟩
      by_cases hq : j + 1 = i
      · right
        rw [a_rv_cat he]
        exact hin.2 hq
      · exact Or.inl hq
theorem a_set_null {Z : List Value} {j : Nat} {w : Value} (h : (Z.set j .null)[j]? = some w) : w = .null := by
  rw [List.getElem?_set, if_pos rfl] at h
  split at h
  · exact (Option.some.inj h).symm
  · cases h
theorem a_rl.st2 {ls ls' : Array Slot} {n i : Nat} {L : List Value} {v : Value} (he : a_exok ex) (k : a_rl ex aa ls n L) (hi : i + 1 < n) (h' : lv_has ls' n ((i, a_rv ex aa v) :: (a_enl ex aa L).filter (fun q => !(q.1 == i) && (!(q.1 == i + 1) && !(q.1 + 1 == i && q.2.category == 2))))) : a_rl ex aa ls' n (a_st2 L i v) := by
  refine ⟨?_, h'.1, h'.2.1, fun j w hj hw => ?_⟩
  · have := k.1
    cases i <;> simp [a_st2, this]
  · have hj1 : j ≠ i + 1 := by
      intro q
      subst q
      exact hw (a_set_null hj)
    have hj' : (a_st1 L i v)[j]? = some w := by
      unfold a_st2 at hj
      rw [List.getElem?_set_ne (Ne.symm hj1)] at hj
      exact hj
    by_cases hji : j = i
    · subst hji
      have : w = v := by
        cases j <;> simp [a_st1, List.getElem?_set] at hj' <;> exact hj'.2.symm
      subst this
      exact h'.2.2 (j, a_rv ex aa w) List.mem_cons_self
    · have hin : L[j]? = some w ∧ (j + 1 = i → ¬ w.category = 2) := by
        cases i with
        | zero =>
          simp [a_st1, List.getElem?_set, Ne.symm hji] at hj'
          exact ⟨hj', fun q => by omega⟩
        | succ i =>
          simp only [a_st1] at hj'
          rw [List.getElem?_set_ne (Ne.symm hji)] at hj'
          by_cases hjj : i = j
          · subst hjj
            rw [List.getElem?_set] at hj'
            simp only [if_true] at hj'
            split at hj'
            · rename_i hl
              have hw2 : a_clr (L.getD i .null) = w := Option.some.inj hj'
              have hg : L[i]? = some (L.getD i .null) := by
                rw [List.getD_eq_getElem?_getD, List.getElem?_eq_getElem hl]; rfl
              cases hx : L.getD i .null <;> rw [hx] at hw2 hg <;> simp only [a_clr] at hw2 <;> first | exact absurd hw2.symm hw | (subst hw2; exact ⟨hg, fun _ => by simp [Value.category]⟩)
            · cases hj'
          · rw [List.getElem?_set_ne hjj] at hj'
            exact ⟨hj', fun q => by omega⟩
      refine h'.2.2 (j, a_rv ex aa w) (List.mem_cons_of_mem _ (List.mem_filter.mpr ⟨a_enl_mem.mpr ⟨w, hin.1, hw, rfl⟩, ?_⟩))
      simp only [Bool.and_eq_true, Bool.not_eq_true', beq_eq_false_iff_ne, Bool.and_eq_false_iff, ne_eq]
      refine ⟨hji, hj1, ?_⟩
      by_cases hq : j + 1 = i
      · right
        rw [a_rv_cat he]
        exact hin.2 hq
      · exact Or.inl hq
end SIM1
