/-! THE SIMULATION, fifth part: calls -/
theorem a_gt_good : GoodIn a_gt a_gt := fun w hw => ⟨hw, good_of_word (List.mem_filter.mp hw).2⟩
theorem a_ws_good {k : Nat} (hk : k < 262) : GoodIn a_gt (a_wCode k :: a_gt) := by
  intro w hw
  rcases List.mem_cons.mp hw with rfl | hw
  · exact ⟨a_gt_of (a_wCode_in k hk) rfl, good_of_word rfl⟩
  · exact a_gt_good w hw
theorem a_own_cl {ci : Nat} {q : vw_C} (h : vwCl[ci]? = some q) : q.1 = a_own ci ∧ ci < 13 := by
  have hl : ci < 13 := (List.getElem?_eq_some_iff.mp h).1
  refine ⟨?_, hl⟩
  rcases (show ci = 0 ∨ ci = 1 ∨ ci = 2 ∨ ci = 3 ∨ ci = 4 ∨ ci = 5 ∨ ci = 6 ∨ ci = 7 ∨ ci = 8 ∨ ci = 9 ∨ ci = 10 ∨ ci = 11 ∨ ci = 12 by omega) with rfl | rfl | rfl | rfl | rfl | rfl | rfl | rfl | rfl | rfl | rfl | rfl | rfl <;> (cases h; rfl)
section SIM5
variable {l : Launch} {D : va_G} {cA : Nat → ClassId} {ex : Value} {L : Nat} {xs : Nat → Int32} {d ce sl y pc : Nat} {lv st : List Value} {h : aH}
def a_Pre (D : va_G) (cA : Nat → ClassId) (ex : Value) (L : Nat) (xs : Nat → Int32) (aa : Nat → Nat) (h : aH) (sz : Nat) (as : List Value) : Array Value → State → Prop := va_Pc (as.map (a_rv ex aa)) (fun U => U.heap.size = sz ∧ a_env D cA ex L xs aa (va_A (a_ws cA ex aa h) sz) U ∧ a_wd D cA ex L xs aa h U.heap (va_A (a_ws cA ex aa h) sz))
theorem a_blind {aa : Nat → Nat} {sz : Nat} {as : List Value} : FrameBlind (a_Pre D cA ex L xs aa h sz as) := by
  intro a U g mk q
  obtain ⟨q1, q2, q3, q4⟩ := q
  exact ⟨q1, q2, q3.call rfl rfl, q4⟩
theorem a_met {k : Nat} (hk : k < 262) {as : List Value} {aa : Nat → Nat} {post : Option Value → aH → Prop} (sz : Nat) (hR : a_sim l D cA ex L xs d 0 0 k 0 (a_ent as (a_ml k)) [] h post) (hfl : (a_flat as).length ≤ a_ml k) :
    Met l (a_mnm k) (a_wCode k :: a_gt) { frames := d, cells := a_mc k, slots := a_ms k, locals := 37 * d } (a_Pre D cA ex L xs aa h sz as) (a_Q D cA ex L xs aa (a_nn h) k (va_A (a_ws cA ex aa h) sz) post) (a_mc k) (a_ms k) (va_A (a_ws cA ex aa h) sz) := by
  have hkr : k ∈ List.range 262 := List.mem_range.mpr hk
  refine Met.ofW (cc := a_mb k) (maxL := a_ml k) (ret := a_mr k) (a_mfacts k hkr) rfl ?_
  intro p e s m args below meth c s₁ B hml hv
  obtain ⟨rfl, hsz, henv, hwd⟩ := hv
  have hts := atoms_spec (ws := a_wCode k :: a_gt) B.pre
  have hown : s.vm.findClass (a_mnm k).cls = some m.cls := findClass_of_methodNamed B.named
  rw [(a_mfacts4 k hkr).1] at hown
  have hnm : meth.name = (a_mnm k).name := (name_of_methodNamed B.named B.method).1
  rw [lg_entry_eq]
  have C : a_ctx p (headSpec (a_wCode k :: a_gt) { frames := d, cells := a_mc k, slots := a_ms k, locals := 37 * d }).room s m ((as.map (a_rv ex aa)).toArray) meth c d k :=
    ⟨B.exec, B.bytes, B.returns, hml, hown, fun w hw => hts w (List.mem_cons_of_mem _ hw), B.notSynchronized, fun z => hnm.trans z, Nat.le_refl _, Nat.le_refl _, rfl, rfl⟩
  exact hR p e _ s m _ below meth c s.heap [] _ (va_A (a_ws cA ex aa h) sz) aa aa (a_nn h) C henv (fun q hq => Or.inr (by rw [← hsz]; exact hq)) hwd va_S.rf (a_rl.entry henv.2.2.1 hfl) ⟨fun _ => rfl, fun _ _ => rfl⟩ (Nat.le_refl _) (Nat.zero_le _) (Nat.zero_le _)
/-- behind a call -/
theorem a_back {k : Nat} {rest : List Value} {p : Program} {e : Env} {R : Room} {s : State} {m : MethodId} {args : Array Value} {below : List Frame} {meth : Method} {c : Code} {H : Heap} {locs : List Loc} {ls : Array Slot} {A : Nat → Prop} {aa aa0 : Nat → Nat} {n0 : Nat} {post : Option Value → aH → Prop} {cargs : Array Value} {fr : Addr → Prop}
    (h1 : a_ctx p R s m args meth c d y) (h2 : a_env D cA ex L xs aa0 A s) (h3 : ∀ q, s.heap.size ≤ q → A q) (h4 : a_wd D cA ex L xs aa h H A) (h5 : va_S A s.heap H locs) (h6 : a_rl ex aa ls (a_ml y) lv) (h7 : a_agr y n0 aa0 aa) (h8 : n0 ≤ a_nn h)
    (hce : ce + a_mc k ≤ a_mc y) (hsl : sl + a_ms k ≤ a_ms y) (hal : a_mc k = 0 ∨ a_frs lv rest h) (hfr : ∀ q, fr q → A q)
    (hrun : va_Run p l e R s m args below meth c H locs ce sl (a_mc k) (a_ms k) (F0 m pc ls st) (rest.map (a_rv ex aa)) (a_Q D cA ex L xs aa (a_nn h) k (va_A (a_ws cA ex aa h) H.size) (fun r h' => a_sim l D cA ex L xs d (ce + a_mc k) (sl + a_ms k) y (pc + 3) lv (r.toList ++ rest) h' post) cargs) fr) :
    W p l e R s m args below meth c H locs ce sl (MQ below (a_Q D cA ex L xs aa0 n0 y A post) args s (a_mc y) (a_ms y) A) (F0 m pc ls st) := by
  intro T hT X
  obtain ⟨v, st₀, t, T', L', g0, X', hL, e1, e2, ⟨⟨r, h', aa', hv, hsim, hag, hnn, hwd⟩, hF⟩, hgo⟩ := hrun T hT X
  have hv' : v = r.map (a_rv ex aa') := by cases hv; rfl
  have hsub : ∀ q, va_A (a_ws cA ex aa h) H.size q → A q := by
    intro q hq
    rcases hq with ⟨k', e', hq⟩ | hq
    · exact h4.2.1.2 k' (q, e') hq
    · exact h3 q (Nat.le_trans h5.1 hq)
  rw [va_F, g0] at hF
  have hS' : va_S A s.heap T'.heap (locs ++ L') := by
    refine ⟨Nat.le_trans h5.1 (by rw [e1]; exact hF.1), fun q q1 q2 => ?_, fun q hq => ?_⟩
    · rw [e1, hF.2 q (Nat.lt_of_lt_of_le q1 h5.1) (fun z => q2 (hsub q z))]
      exact h5.2.1 q q1 q2
    · rcases List.mem_append.mp hq with z | z
      · exact h5.2.2 q z
      · exact hfr _ (hL q z)
  have hwd' : a_wd D cA ex L xs aa' h' T'.heap A := by
    rw [e1]
    exact ⟨hwd.1, hwd.2.1.weaken (fun _ q _ z => hsub q.1 z), hwd.2.2⟩
  have hag' : a_agr y n0 aa0 aa' := by
    refine ⟨fun z => ?_, fun i hi => ?_⟩
    · rw [hag.1 (by omega), h7.1 z]
    · rw [hag.2 i (by omega), h7.2 i hi]
  have hsame : ∀ w, (w ∈ lv ∨ w ∈ rest) → a_rv ex aa' w = a_rv ex aa w := by
    intro w hw
    rcases hal with z | z
    · rw [hag.1 z]
    · have hvd : a_vd (a_nn h) w := hw.elim (fun q => z.1 w q) (fun q => z.2.1 w q)
      cases w <;> try rfl
      rename_i i
      have hi := hvd i rfl
      show (if i = 1003 then ex else Value.ref (aa' i)) = if i = 1003 then ex else Value.ref (aa i)
      rw [hag.2 i hi]
  have h6' : a_rl ex aa' ls (a_ml y) lv := ⟨h6.1, h6.2.1, h6.2.2.1, fun i w hi hn => by rw [hsame w (Or.inl (List.mem_of_getElem? hi))]; exact h6.2.2.2 i w hi hn⟩
  have hst : (r.toList ++ rest).map (a_rv ex aa') = v.toList ++ rest.map (a_rv ex aa) := by
    rw [List.map_append, hv']
    congr 1
    · cases r <;> rfl
    · exact List.map_congr_left fun w hw => hsame w (Or.inr hw)
  have q := hsim p e R s m args below meth c T'.heap (locs ++ L') ls A aa' aa0 n0 h1 h2 h3 hwd' hS' h6' hag' (Nat.le_trans h8 hnn) hce hsl
  rw [hst] at q
  obtain ⟨t2, a1, b1⟩ := q T' rfl X'
  exact ⟨t2, hgo t2 a1, b1⟩
theorem a_cpre {k : Nat} {as : List Value} {s : State} {H : Heap} {locs : List Loc} {A : Nat → Prop} {aa aa0 : Nat → Nat} {n0 : Nat} (h2 : a_env D cA ex L xs aa0 A s) (h3 : ∀ q, s.heap.size ≤ q → A q) (h4 : a_wd D cA ex L xs aa h H A) (h5 : va_S A s.heap H locs) (h7 : a_agr y n0 aa0 aa) : ∀ U : State, U.heap = H → s.WarmedH U.vm → a_Pre D cA ex L xs aa h H.size as ((as.map (a_rv ex aa)).toArray) U := by
  intro U hU hW
  have hsub : ∀ q, va_A (a_ws cA ex aa h) H.size q → A q := by
    intro q hq
    rcases hq with ⟨k', e', hq⟩ | hq
    · exact h4.2.1.2 k' (q, e') hq
    · exact h3 q (Nat.le_trans h5.1 hq)
  refine ⟨rfl, by rw [hU], h2.sub h5 hU hW hsub (fun i hi => h7.2 i (Or.inr hi)), ?_⟩
  rw [hU]
  exact ⟨h4.1, h4.2.1.self, h4.2.2⟩
theorem s_callV {i k b : Nat} {rest : List Value} {post : Option Value → aH → Prop} (hd : decode (a_mb y) pc = .ok (.invokevirtual i, 3)) (hk : a_mth (a_mcl y) i = some (0, k)) (hst : st.drop (a_mn k) = .ref b :: rest) (hn : a_mn k ≤ st.length) (hrc : a_rcv h k b) (hd1 : 1 ≤ d) (hcw : a_cw rest ≤ 8) (hfl : (a_flat (.ref b :: (st.take (a_mn k)).reverse)).length ≤ a_ml k) (hce : ce + a_mc k ≤ a_mc y) (hsl : sl + a_ms k ≤ a_ms y) (hal : a_mc k = 0 ∨ a_frs lv rest h)
    (hsim : a_sim l D cA ex L xs (d - 1) 0 0 k 0 (a_ent (.ref b :: (st.take (a_mn k)).reverse) (a_ml k)) [] h (fun r h' => a_sim l D cA ex L xs d (ce + a_mc k) (sl + a_ms k) y (pc + 3) lv (r.toList ++ rest) h' post)) : a_sim l D cA ex L xs d ce sl y pc lv st h post := by
  intro p e R s m args below meth c H locs ls A aa aa0 n0 h1 h2 h3 h4 h5 h6 h7 h8 h9 h10
  have hm := a_mth_of hk
  have hlt := a_mth_lt _ hm
  have hkr : k ∈ List.range 262 := List.mem_range.mpr hlt
  have hV := a_kV _ hm rfl
  have hts := h1.2.2.2.2.2.1
  obtain ⟨hfr, hlo, hRc, hRs⟩ := h1.2.2.2.2.2.2.2.2
  have hm4 := a_mfacts4 k hkr
  have hb : b ≠ 1003 ∧ ∃ cell : Cell, H[aa b]? = some cell ∧ cell.vm.isStatics = false ∧ s.vm.findClass (a_mnm k).cls = some cell.cls := by
    rcases hrc with hs | ⟨h14, hb1, hb2⟩
    · refine ⟨h4.ne (by rw [hs]; exact Or.inl rfl), ?_⟩
      have ho := h4.obj hs
      obtain ⟨q, hq, -⟩ := h4.1 b _ ho
      have hr := va_recv h2.1 h4.1 hq ho
      rw [hm4.1, ← (a_own_cl hq).1]
      exact hr
    · refine ⟨by omega, ?_⟩
      have := vk_recv h2.2.2.2.2.2.2.2.2.2.2.2 (i := b - 1010) (by omega) h5
      rw [show 1010 + (b - 1010) = b by omega] at this
      rw [hm4.1, h14, h7.2 b (Or.inr (by omega))]
      exact this
  have hM := a_met (aa := aa) hlt H.size hsim hfl
  have hstk : st.map (a_rv ex aa) = (((st.take (a_mn k)).reverse).map (a_rv ex aa)).reverse ++ .ref (aa b) :: rest.map (a_rv ex aa) := by
    rw [← List.map_reverse, List.reverse_reverse]
    conv => lhs; rw [← List.take_append_drop (a_mn k) st]
    rw [List.map_append, hst, List.map_cons, a_rv_ref hb.1]
  have hG : GoodIn a_gt (wsV (a_own (a_mcl y)) i (a_mnm k).cls (a_mnm k) (a_wCode k :: a_gt)) := by
    intro w hw
    rcases List.mem_append.mp hw with hw | hw
    · rcases List.mem_cons.mp hw with rfl | hw
      · exact ⟨a_gt_of (a_wM013_in _ (List.mem_filter.mpr ⟨hm, rfl⟩)) rfl, good_of_word rfl⟩
      rcases List.mem_cons.mp hw with rfl | hw
      · exact ⟨a_gt_of (a_wInst_in _ hV.2) rfl, good_of_word rfl⟩
      rcases List.mem_cons.mp hw with rfl | hw
      · exact ⟨a_gt_of (a_wSel_in _ hV.1) rfl, good_of_word rfl⟩
      rcases List.mem_cons.mp hw with rfl | hw
      · exact ⟨a_gt_of (a_wIni_in _ hkr) rfl, good_of_word rfl⟩
      cases hw
    · exact a_ws_good hlt w hw
  have hpre := a_cpre (k := k) (as := .ref b :: (st.take (a_mn k)).reverse) h2 h3 h4 h5 h7
  rw [List.map_cons, a_rv_ref hb.1] at hpre
  have cw := cwV (R := R) (rm := { frames := d - 1, cells := a_mc k, slots := a_ms k, locals := 37 * (d - 1) }) (mc := a_mc k) (ms := a_ms k) (bytes := a_mb k) (maxL := a_ml k) (ret := a_mr k) (ws := a_wCode k :: a_gt) (ws' := a_gt) (a_mn k) hts hG rfl rfl rfl ⟨rfl, (a_mfacts2 k hkr).1, (a_mfacts2 k hkr).2, a_mfacts3 k hkr⟩ ⟨by show d - 1 + 1 ≤ R.frames; omega, by show 8 + (a_ml k + 11) + 37 * (d - 1) ≤ R.locals; have := hm4.2; omega⟩
  have hr := va_runV (g := F0 m pc ls (st.map (a_rv ex aa))) (As := ((st.take (a_mn k)).reverse).map (a_rv ex aa)) (rest := rest.map (a_rv ex aa)) (b := aa b) (cells := ce) (slots := sl) (H := H) (locs := locs) (below := below) (meth := meth) (e := e) ⟨h1.1, h1.2.1, h1.2.2.2.1, h1.2.2.2.2.1, hts⟩ hM cw ⟨a_blind, hb.2, hpre⟩ rfl (by simp; omega) h6.2.1 hstk (lv_room (by rw [a_cw_rv h2.2.2.1]; exact hcw)) hd ⟨by rw [hRc]; exact hce, by rw [hRs]; exact hsl⟩
  exact a_back h1 h2 h3 h4 h5 h6 h7 h8 hce hsl hal (fun q hq => by
    rcases hq with ⟨k', e', hq⟩ | hq
    · exact h4.2.1.2 k' (q, e') hq
    · exact h3 q (Nat.le_trans h5.1 hq)) hr
theorem s_callS {i k qk : Nat} {rest : List Value} {post : Option Value → aH → Prop} (hd : decode (a_mb y) pc = .ok (.invokestatic i, 3)) (hk : a_mth (a_mcl y) i = some (qk, k)) (hq : qk = 1 ∨ qk = 2) (hst : st.drop (a_mn k) = rest) (hn : a_mn k ≤ st.length) (hd1 : 1 ≤ d) (hcw : a_cw rest ≤ 8) (hfl : (a_flat (st.take (a_mn k)).reverse).length ≤ a_ml k) (hce : ce + a_mc k ≤ a_mc y) (hsl : sl + a_ms k ≤ a_ms y) (hal : a_mc k = 0 ∨ a_frs lv rest h)
    (hsim : a_sim l D cA ex L xs (d - 1) 0 0 k 0 (a_ent (st.take (a_mn k)).reverse (a_ml k)) [] h (fun r h' => a_sim l D cA ex L xs d (ce + a_mc k) (sl + a_ms k) y (pc + 3) lv (r.toList ++ rest) h' post)) : a_sim l D cA ex L xs d ce sl y pc lv st h post := by
  intro p e R s m args below meth c H locs ls A aa aa0 n0 h1 h2 h3 h4 h5 h6 h7 h8 h9 h10
  have hm := a_mth_of hk
  have hlt := a_mth_lt _ hm
  have hkr : k ∈ List.range 262 := List.mem_range.mpr hlt
  have hV := a_kS _ hm hq
  have hts := h1.2.2.2.2.2.1
  obtain ⟨hfr, hlo, hRc, hRs⟩ := h1.2.2.2.2.2.2.2.2
  have hm4 := a_mfacts4 k hkr
  have hM := a_met (k := k) (aa := aa) hlt H.size hsim hfl
  have hstk : st.map (a_rv ex aa) = (((st.take (a_mn k)).reverse).map (a_rv ex aa)).reverse ++ rest.map (a_rv ex aa) := by
    rw [← List.map_reverse, List.reverse_reverse]
    conv => lhs; rw [← List.take_append_drop (a_mn k) st]
    rw [List.map_append, hst]
  have hpre := a_cpre (k := k) (as := (st.take (a_mn k)).reverse) h2 h3 h4 h5 h7
  have hroom : ({ frames := d - 1, cells := a_mc k, slots := a_ms k, locals := 37 * (d - 1) } : Room).frames + 1 ≤ R.frames ∧ 8 + (a_ml k + 11) + ({ frames := d - 1, cells := a_mc k, slots := a_ms k, locals := 37 * (d - 1) } : Room).locals ≤ R.locals := ⟨by show d - 1 + 1 ≤ R.frames; omega, by show 8 + (a_ml k + 11) + 37 * (d - 1) ≤ R.locals; have := hm4.2; omega⟩
  have hini := hts _ (a_gt_of (a_wIni_in _ hkr) rfl)
  have hsta := hts _ (a_gt_of (a_wStat_in _ hV) rfl)
  have hfree : ∀ q, va_A (a_ws cA ex aa h) H.size q → A q := fun q hq => by
    rcases hq with ⟨k', e', hq⟩ | hq
    · exact h4.2.1.2 k' (q, e') hq
    · exact h3 q (Nat.le_trans h5.1 hq)
  rcases hq with rfl | rfl
  · have cw := callB_of (own := a_own (a_mcl y)) (index := i) (R := R) (rm := { frames := d - 1, cells := a_mc k, slots := a_ms k, locals := 37 * (d - 1) }) (mc := a_mc k) (ms := a_ms k) (bytes := a_mb k) (maxL := a_ml k) (ret := a_mr k) (ws := a_wCode k :: a_gt) (ws' := a_gt) (a_mn k) hts (a_ws_good hlt) rfl rfl rfl hini (hts _ (a_gt_of (a_wM013_in _ (List.mem_filter.mpr ⟨hm, rfl⟩)) rfl)) ⟨(a_mfacts2 k hkr).1, (a_mfacts2 k hkr).2, a_mfacts3 k hkr⟩ hroom
    have hr := va_runS (g := F0 m pc ls (st.map (a_rv ex aa))) (As := ((st.take (a_mn k)).reverse).map (a_rv ex aa)) (rest := rest.map (a_rv ex aa)) (cells := ce) (slots := sl) (H := H) (locs := locs) (below := below) (meth := meth) (e := e) ⟨h1.1, h1.2.1, h1.2.2.2.1, h1.2.2.2.2.1, hts⟩ hM ⟨cw, hsta⟩ ⟨a_blind, hpre⟩ rfl (by simp; omega) h6.2.1 hstk (lv_room (by rw [a_cw_rv h2.2.2.1]; exact hcw)) hd ⟨by rw [hRc]; exact hce, by rw [hRs]; exact hsl⟩
    exact a_back h1 h2 h3 h4 h5 h6 h7 h8 hce hsl hal hfree hr
  · have hnw := h2.2.1 (a_wMN (a_mcl y, i, 2, k)) (List.mem_filter.mpr ⟨a_wM24_in _ (List.mem_filter.mpr ⟨hm, rfl⟩), rfl⟩)
    have cw := va_cnB (own := a_own (a_mcl y)) (host := "HandsPicture") (index := i) (R := R) (rm := { frames := d - 1, cells := a_mc k, slots := a_ms k, locals := 37 * (d - 1) }) (mc := a_mc k) (ms := a_ms k) (y := a_mnm k) (bytes := a_mb k) (maxL := a_ml k) (ret := a_mr k) (ws := a_wCode k :: a_gt) (ws' := a_gt) (a_mn k) hts (a_ws_good hlt) rfl rfl rfl hnw hini ⟨(a_mfacts2 k hkr).1, (a_mfacts2 k hkr).2, a_mfacts3 k hkr⟩ hroom
    have hr := va_runSN (g := F0 m pc ls (st.map (a_rv ex aa))) (As := ((st.take (a_mn k)).reverse).map (a_rv ex aa)) (rest := rest.map (a_rv ex aa)) (cells := ce) (slots := sl) (H := H) (locs := locs) (below := below) (meth := meth) (e := e) ⟨h1.1, h1.2.1, h1.2.2.2.1, h1.2.2.2.2.1, hts⟩ hM ⟨cw, hsta, trivial⟩ ⟨a_blind, hpre⟩ rfl (by simp; omega) h6.2.1 hstk (lv_room (by rw [a_cw_rv h2.2.2.1]; exact hcw)) hd ⟨by rw [hRc]; exact hce, by rw [hRs]; exact hsl⟩
    exact a_back h1 h2 h3 h4 h5 h6 h7 h8 hce hsl hal hfree hr
theorem s_callI {i k b qk : Nat} {post : Option Value → aH → Prop} (hd : decode (a_mb y) pc = .ok (.invokespecial i, 3)) (hk : a_mth (a_mcl y) i = some (qk, k)) (hq : qk = 3 ∨ qk = 4) (hn : a_mn k = 0) (hb3 : b ≠ 1003) (hd1 : 1 ≤ d) (hcw : a_cw st ≤ 8) (hfl : (a_flat [.ref b]).length ≤ a_ml k) (hce : ce + a_mc k ≤ a_mc y) (hsl : sl + a_ms k ≤ a_ms y) (hal : a_mc k = 0 ∨ a_frs lv st h)
    (hsim : a_sim l D cA ex L xs (d - 1) 0 0 k 0 (a_ent [.ref b] (a_ml k)) [] h (fun r h' => a_sim l D cA ex L xs d (ce + a_mc k) (sl + a_ms k) y (pc + 3) lv (r.toList ++ st) h' post)) : a_sim l D cA ex L xs d ce sl y pc lv (.ref b :: st) h post := by
  intro p e R s m args below meth c H locs ls A aa aa0 n0 h1 h2 h3 h4 h5 h6 h7 h8 h9 h10
  have hm := a_mth_of hk
  have hlt := a_mth_lt _ hm
  have hkr : k ∈ List.range 262 := List.mem_range.mpr hlt
  obtain ⟨hV, hinit, hret⟩ := a_kI _ hm hq
  dsimp only at hinit hret
  have hts := h1.2.2.2.2.2.1
  obtain ⟨hfr, hlo, hRc, hRs⟩ := h1.2.2.2.2.2.2.2.2
  have hm4 := a_mfacts4 k hkr
  have hM := a_met (k := k) (aa := aa) hlt H.size hsim hfl
  have hpre := a_cpre (k := k) (as := [.ref b]) h2 h3 h4 h5 h7
  simp only [List.map_cons, List.map_nil, a_rv_ref hb3] at hpre
  have hroom : ({ frames := d - 1, cells := a_mc k, slots := a_ms k, locals := 37 * (d - 1) } : Room).frames + 1 ≤ R.frames ∧ 8 + (a_ml k + 11) + ({ frames := d - 1, cells := a_mc k, slots := a_ms k, locals := 37 * (d - 1) } : Room).locals ≤ R.locals := ⟨by show d - 1 + 1 ≤ R.frames; omega, by show 8 + (a_ml k + 11) + 37 * (d - 1) ≤ R.locals; have := hm4.2; omega⟩
  have hini := hts _ (a_gt_of (a_wIni_in _ hkr) rfl)
  have hins := hts _ (a_gt_of (a_wInst_in _ hV) rfl)
  have hfree : ∀ q, va_A (a_ws cA ex aa h) H.size q → A q := fun q hq => by
    rcases hq with ⟨k', e', hq⟩ | hq
    · exact h4.2.1.2 k' (q, e') hq
    · exact h3 q (Nat.le_trans h5.1 hq)
  have hcode : (a_wCode k :: a_gt) = Cond.code (a_mnm k) (a_mb k) (a_ml k) none :: a_gt := by unfold a_wCode; rw [hret]
  have h30 := a_mfacts3 k hkr
  rw [hn] at h30
  rw [List.map_cons, a_rv_ref hb3]
  rcases hq with rfl | rfl
  · have cw := callB_of (own := a_own (a_mcl y)) (index := i) (R := R) (rm := { frames := d - 1, cells := a_mc k, slots := a_ms k, locals := 37 * (d - 1) }) (mc := a_mc k) (ms := a_ms k) (bytes := a_mb k) (maxL := a_ml k) (ret := none) (ws := a_wCode k :: a_gt) (ws' := a_gt) 0 hts (a_ws_good hlt) hcode rfl rfl hini (hts _ (a_gt_of (a_wM013_in _ (List.mem_filter.mpr ⟨hm, rfl⟩)) rfl)) ⟨(a_mfacts2 k hkr).1, (a_mfacts2 k hkr).2, h30⟩ hroom
    have hr := va_runI (g := F0 m pc ls (.ref (aa b) :: st.map (a_rv ex aa))) (As := []) (b := aa b) (rest := st.map (a_rv ex aa)) (cells := ce) (slots := sl) (H := H) (locs := locs) (below := below) (meth := meth) (e := e) ⟨h1.1, h1.2.1, h1.2.2.2.1, h1.2.2.2.2.1, hts⟩ hM ⟨cw, hinit, hins⟩ ⟨a_blind, hpre⟩ rfl rfl h6.2.1 rfl (lv_room (by rw [a_cw_rv h2.2.2.1]; exact hcw)) hd ⟨by rw [hRc]; exact hce, by rw [hRs]; exact hsl⟩
    exact a_back h1 h2 h3 h4 h5 h6 h7 h8 hce hsl hal hfree hr
  · have hnw := h2.2.1 (a_wMN (a_mcl y, i, 4, k)) (List.mem_filter.mpr ⟨a_wM24_in _ (List.mem_filter.mpr ⟨hm, rfl⟩), rfl⟩)
    have cw := va_cnB (own := a_own (a_mcl y)) (host := "HandsPicture") (index := i) (R := R) (rm := { frames := d - 1, cells := a_mc k, slots := a_ms k, locals := 37 * (d - 1) }) (mc := a_mc k) (ms := a_ms k) (y := a_mnm k) (bytes := a_mb k) (maxL := a_ml k) (ret := none) (ws := a_wCode k :: a_gt) (ws' := a_gt) 0 hts (a_ws_good hlt) hcode rfl rfl hnw hini ⟨(a_mfacts2 k hkr).1, (a_mfacts2 k hkr).2, h30⟩ hroom
    have hr := va_runIN (g := F0 m pc ls (.ref (aa b) :: st.map (a_rv ex aa))) (As := []) (b := aa b) (rest := st.map (a_rv ex aa)) (cells := ce) (slots := sl) (H := H) (locs := locs) (below := below) (meth := meth) (e := e) ⟨h1.1, h1.2.1, h1.2.2.2.1, h1.2.2.2.2.1, hts⟩ hM ⟨cw, hinit, hins⟩ ⟨a_blind, hpre⟩ rfl rfl h6.2.1 rfl (lv_room (by rw [a_cw_rv h2.2.2.1]; exact hcw)) hd ⟨by rw [hRc]; exact hce, by rw [hRs]; exact hsl⟩
    exact a_back h1 h2 h3 h4 h5 h6 h7 h8 hce hsl hal hfree hr
end SIM5
