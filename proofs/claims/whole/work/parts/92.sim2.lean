/-! THE SIMULATION, second part: what stands around a method; a step of each kind -/
theorem a_gt_of {w : Cond} (h : w ∈ lw_tbl) (hg : goodWord w = true) : w ∈ a_gt := List.mem_filter.mpr ⟨h, hg⟩
theorem a_find_mem {α : Type} {l : List α} {q : α → Bool} {e : α} (h : l.find? q = some e) : e ∈ l ∧ q e = true := ⟨List.mem_of_find?_eq_some h, List.find?_some h⟩
theorem a_fld_of {c i ci k : Nat} (h : a_fld c i = some (ci, k)) : (c, i, ci, k) ∈ a_fldT := by
  unfold a_fld at h
  cases hf : a_fldT.find? (fun e => e.1 == c && e.2.1 == i) with
  | none => rw [hf] at h; cases h
  | some e =>
    rw [hf] at h
    obtain ⟨h1, h2⟩ := a_find_mem hf
    obtain ⟨a, b, x, z⟩ := e
    simp only [Bool.and_eq_true, beq_iff_eq] at h2
    have h3 : (x, z) = (ci, k) := Option.some.inj h
    cases h3
    obtain ⟨rfl, rfl⟩ := h2
    exact h1
theorem a_mth_of {c i ci k : Nat} (h : a_mth c i = some (ci, k)) : (c, i, ci, k) ∈ a_mthT := by
  unfold a_mth at h
  cases hf : a_mthT.find? (fun e => e.1 == c && e.2.1 == i) with
  | none => rw [hf] at h; cases h
  | some e =>
    rw [hf] at h
    obtain ⟨h1, h2⟩ := a_find_mem hf
    obtain ⟨a, b, x, z⟩ := e
    simp only [Bool.and_eq_true, beq_iff_eq] at h2
    have h3 : (x, z) = (ci, k) := Option.some.inj h
    cases h3
    obtain ⟨rfl, rfl⟩ := h2
    exact h1
theorem a_cst_of {c i : Nat} {v : Value} (h : a_cst c i = some v) : (c, i, v) ∈ a_cstT := by
  unfold a_cst at h
  cases hf : a_cstT.find? (fun e => e.1 == c && e.2.1 == i) with
  | none => rw [hf] at h; cases h
  | some e =>
    rw [hf] at h
    obtain ⟨h1, h2⟩ := a_find_mem hf
    obtain ⟨a, b, x⟩ := e
    simp only [Bool.and_eq_true, beq_iff_eq] at h2
    have h3 : x = v := Option.some.inj h
    cases h3
    obtain ⟨rfl, rfl⟩ := h2
    exact h1
theorem a_sta_of {c i : Nat} {v : Value} (h : a_sta c i = some v) : (c, i, v) ∈ a_staT := by
  unfold a_sta at h
  cases hf : a_staT.find? (fun e => e.1 == c && e.2.1 == i) with
  | none => rw [hf] at h; cases h
  | some e =>
    rw [hf] at h
    obtain ⟨h1, h2⟩ := a_find_mem hf
    obtain ⟨a, b, x⟩ := e
    simp only [Bool.and_eq_true, beq_iff_eq] at h2
    have h3 : x = v := Option.some.inj h
    cases h3
    obtain ⟨rfl, rfl⟩ := h2
    exact h1
theorem a_str_of {c i j : Nat} (h : a_str c i = some j) : (c, i, j) ∈ a_strT := by
  unfold a_str at h
  cases hf : a_strT.find? (fun e => e.1 == c && e.2.1 == i) with
  | none => rw [hf] at h; cases h
  | some e =>
    rw [hf] at h
    obtain ⟨h1, h2⟩ := a_find_mem hf
    obtain ⟨a, b, x⟩ := e
    simp only [Bool.and_eq_true, beq_iff_eq] at h2
    have h3 : x = j := Option.some.inj h
    cases h3
    obtain ⟨rfl, rfl⟩ := h2
    exact h1
theorem a_nwc_of {c i j : Nat} (h : a_nwc c i = some j) : (c, i, j) ∈ a_newT := by
  unfold a_nwc at h
  cases hf : a_newT.find? (fun e => e.1 == c && e.2.1 == i) with
  | none => rw [hf] at h; cases h
  | some e =>
    rw [hf] at h
    obtain ⟨h1, h2⟩ := a_find_mem hf
    obtain ⟨a, b, x⟩ := e
    simp only [Bool.and_eq_true, beq_iff_eq] at h2
    have h3 : x = j := Option.some.inj h
    cases h3
    obtain ⟨rfl, rfl⟩ := h2
    exact h1
/-- what the tables say of a kind of objects -/
def a_clok (C : String) (T : u_T) (N : Nat) (ty : Nat → FieldType) : Prop := (∀ w ∈ u_ws C T N, w ∈ a_gt) ∧ (∀ k, k < N → parseFieldDescriptor (T k).2.2.1 = some (ty k)) ∧ (∀ a, a < N → ∀ b, b < N → a ≠ b → (T a).2.1 ≠ (T b).2.1)
theorem a_cl_all {ci : Nat} (hc : ci < 13) : ∃ C T ty, vwCl[ci]? = some (C, T, a_nf ci) ∧ a_clok C T (a_nf ci) ty ∧ a_cnm ci = C ∧ ∀ j, a_dv ci j = defaultValue (ty j) := by
  rcases (show ci = 0 ∨ ci = 1 ∨ ci = 2 ∨ ci = 3 ∨ ci = 4 ∨ ci = 5 ∨ ci = 6 ∨ ci = 7 ∨ ci = 8 ∨ ci = 9 ∨ ci = 10 ∨ ci = 11 ∨ ci = 12 by omega) with rfl | rfl | rfl | rfl | rfl | rfl | rfl | rfl | rfl | rfl | rfl | rfl | rfl
  · exact ⟨RX0, TX0, tyX0, rfl, ⟨fun w h => a_gt_of (a_u0 w h) (a_ug0 w h), tyX0_ok, nmX0⟩, rfl, fun _ => rfl⟩
  · exact ⟨RX1, TX1, tyX1, rfl, ⟨fun w h => a_gt_of (a_u1 w h) (a_ug1 w h), tyX1_ok, nmX1⟩, rfl, fun _ => rfl⟩
  · exact ⟨RX2, TX2, tyX2, rfl, ⟨fun w h => a_gt_of (a_u2 w h) (a_ug2 w h), tyX2_ok, nmX2⟩, rfl, fun _ => rfl⟩
  · exact ⟨RX3, TX3, tyX3, rfl, ⟨fun w h => a_gt_of (a_u3 w h) (a_ug3 w h), tyX3_ok, nmX3⟩, rfl, fun _ => rfl⟩
  · exact ⟨RX4, TX4, tyX4, rfl, ⟨fun w h => a_gt_of (a_u4 w h) (a_ug4 w h), tyX4_ok, nmX4⟩, rfl, fun _ => rfl⟩
  · exact ⟨RX5, TX5, tyX5, rfl, ⟨fun w h => a_gt_of (a_u5 w h) (a_ug5 w h), tyX5_ok, nmX5⟩, rfl, fun _ => rfl⟩
  · exact ⟨RX6, TX6, tyX6, rfl, ⟨fun w h => a_gt_of (a_u6 w h) (a_ug6 w h), tyX6_ok, nmX6⟩, rfl, fun _ => rfl⟩
  · exact ⟨RX7, TX7, tyX7, rfl, ⟨fun w h => a_gt_of (a_u7 w h) (a_ug7 w h), tyX7_ok, nmX7⟩, rfl, fun _ => rfl⟩
  · exact ⟨RX8, TX8, tyX8, rfl, ⟨fun w h => a_gt_of (a_u8 w h) (a_ug8 w h), tyX8_ok, nmX8⟩, rfl, fun _ => rfl⟩
  · exact ⟨RX9, TX9, tyX9, rfl, ⟨fun w h => a_gt_of (a_u9 w h) (a_ug9 w h), tyX9_ok, nmX9⟩, rfl, fun _ => rfl⟩
  · exact ⟨RX10, TX10, tyX10, rfl, ⟨fun w h => a_gt_of (a_u10 w h) (a_ug10 w h), tyX10_ok, nmX10⟩, rfl, fun _ => rfl⟩
  · exact ⟨RX11, TX11, tyX11, rfl, ⟨fun w h => a_gt_of (a_u11 w h) (a_ug11 w h), tyX11_ok, nmX11⟩, rfl, fun _ => rfl⟩
  · exact ⟨RX12, TX12, tyX12, rfl, ⟨fun w h => a_gt_of (a_u12 w h) (a_ug12 w h), tyX12_ok, nmX12⟩, rfl, fun _ => rfl⟩
/-- what stands around a method's run -/
def a_ctx (p : Program) (R : Room) (s : State) (m : MethodId) (args : Array Value) (meth : Method) (c : Code) (d y : Nat) : Prop :=
  p.tables.exec = Jvm.exec ∧ c.code = a_mb y ∧ meth.sig.returnType = a_mr y ∧ c.maxLocals = a_ml y ∧ s.vm.findClass (a_own (a_mcl y)) = some m.cls ∧ (∀ w ∈ a_gt, w.before args s = true) ∧ meth.locks = false ∧ ((a_mnm y).name = "<init>" → meth.name = "<init>") ∧ d ≤ R.frames ∧ 37 * d ≤ R.locals ∧ R.cells = a_mc y ∧ R.slots = a_ms y
/-- what is outside: tables, static rows, texts, the script -/
def a_env (D : va_G) (cA : Nat → ClassId) (ex : Value) (L : Nat) (xs : Nat → Int32) (aa : Nat → Nat) (A : Nat → Prop) (U : State) : Prop :=
  va_K D vwCl (a_tys cA) U ∧ (∀ w ∈ a_nst, va_Nw w U) ∧ a_exok ex ∧
  va_T .int (aa 1000) L (fun j => .int (xs j)) A U U.heap ∧
  va_T .int (aa 1001) 6 (fun j => .int (a_axis.getD j 0)) A U U.heap ∧ va_T .int (aa 1002) 6 (fun j => .int (a_stiff.getD j 0)) A U U.heap ∧
  va_Z "HandsPicture$Laws" "AXIS" "[I" (.ref (aa 1001)) A U U.heap ∧ va_Z "HandsPicture$Laws" "STIFF" "[I" (.ref (aa 1002)) A U U.heap ∧
  va_Z "jdk/internal/util/Preconditions" "SIOOBE_FORMATTER" "Ljava/util/function/BiFunction;" ex A U U.heap ∧ va_Z "java/lang/String" "COMPACT_STRINGS" "Z" (.int 1) A U U.heap ∧
  (∀ i, i < 8 → vk_R "HandsPicture$Reader" (90 + 2 * i) (a_txt.getD i "") (aa (1010 + i)) U) ∧ vk_S 8 a_len a_byt (fun i => aa (1010 + i)) (fun i => aa (1020 + i)) A U U.heap
def a_agr (y n0 : Nat) (aa0 aa : Nat → Nat) : Prop := (a_mc y = 0 → aa = aa0) ∧ ∀ i, (i < n0 ∨ 1000 ≤ i) → aa i = aa0 i
def a_Q (D : va_G) (cA : Nat → ClassId) (ex : Value) (L : Nat) (xs : Nat → Int32) (aa0 : Nat → Nat) (n0 y : Nat) (A : Nat → Prop) (post : Option Value → aH → Prop) : Array Value → State → Outcome → State → Prop := fun _ st oc t =>
  (∃ (r : Option Value) (h' : aH) (aa' : Nat → Nat), oc = .returned (r.map (a_rv ex aa')) ∧ post r h' ∧ a_agr y n0 aa0 aa' ∧ n0 ≤ a_nn h' ∧ a_wd D cA ex L xs aa' h' t.heap A) ∧ va_F A st t
def a_sim (l : Launch) (D : va_G) (cA : Nat → ClassId) (ex : Value) (L : Nat) (xs : Nat → Int32) : aP := fun d ce sl y pc lv st h post =>
  ∀ (p : Program) (e : Env) (R : Room) (s : State) (m : MethodId) (args : Array Value) (below : List Frame) (meth : Method) (c : Code) (H : Heap) (locs : List Loc) (ls : Array Slot) (A : Nat → Prop) (aa aa0 : Nat → Nat) (n0 : Nat),
    a_ctx p R s m args meth c d y → a_env D cA ex L xs aa0 A s → (∀ q, s.heap.size ≤ q → A q) → a_wd D cA ex L xs aa h H A → va_S A s.heap H locs → a_rl ex aa ls (a_ml y) lv → a_agr y n0 aa0 aa → n0 ≤ a_nn h → ce ≤ a_mc y → sl ≤ a_ms y →
    W p l e R s m args below meth c H locs ce sl (MQ below (a_Q D cA ex L xs aa0 n0 y A post) args s (a_mc y) (a_ms y) A) (F0 m pc ls (st.map (a_rv ex aa)))
theorem a_sim_mono (l : Launch) (D : va_G) (cA : Nat → ClassId) (ex : Value) (L : Nat) (xs : Nat → Int32) : a_mono (a_sim l D cA ex L xs) := by
  intro d ce sl y pc lv st h p1 p2 hp k p e R s m args below meth c H locs ls A aa aa0 n0 h1 h2 h3 h4 h5 h6 h7 h8 h9 h10 T hT X
  obtain ⟨t, a1, o, b1, b2, ⟨⟨r, h', aa', c1, c2, c3⟩, b4⟩, b5⟩ := k p e R s m args below meth c H locs ls A aa aa0 n0 h1 h2 h3 h4 h5 h6 h7 h8 h9 h10 T hT X
  exact ⟨t, a1, o, b1, b2, ⟨⟨r, h', aa', c1, hp _ _ c2, c3⟩, b4⟩, b5⟩
/-- a step from (pc, lv, st, h) to (pc', lv', st', h'), whatever is asked at the end -/
def a_go (l : Launch) (D : va_G) (cA : Nat → ClassId) (ex : Value) (L : Nat) (xs : Nat → Int32) (d ce sl y pc : Nat) (lv st : List Value) (h : aH) (ce' sl' pc' : Nat) (lv' st' : List Value) (h' : aH) : Prop :=
  ∀ post, a_sim l D cA ex L xs d ce' sl' y pc' lv' st' h' post → a_sim l D cA ex L xs d ce sl y pc lv st h post
section SIM2
variable {l : Launch} {D : va_G} {cA : Nat → ClassId} {ex : Value} {L : Nat} {xs : Nat → Int32} {d ce sl y pc : Nat} {lv st : List Value} {h : aH}
/-- a step that touches neither heap nor locals -/
theorem a_pure {st' : List Value} {pc' : Nat} (hs : ∀ {p : Program} {e : Env} {R : Room} {s : State} {m : MethodId} {args : Array Value} {below : List Frame} {meth : Method} {c : Code} {H : Heap} {locs : List Loc} {cells slots : Nat} {Q : State → Prop} {ls : Array Slot} {aa : Nat → Nat}, p.tables.exec = Jvm.exec → c.code = a_mb y → s.vm.findClass (a_own (a_mcl y)) = some m.cls → (∀ w ∈ a_gt, w.before args s = true) → a_rl ex aa ls (a_ml y) lv → W p l e R s m args below meth c H locs cells slots Q (F0 m pc' ls (st'.map (a_rv ex aa))) → W p l e R s m args below meth c H locs cells slots Q (F0 m pc ls (st.map (a_rv ex aa)))) :
    a_go l D cA ex L xs d ce sl y pc lv st h ce sl pc' lv st' h := by
  intro post k p e R s m args below meth c H locs ls A aa aa0 n0 h1 h2 h3 h4 h5 h6 h7 h8 h9 h10
  exact hs h1.1 h1.2.1 h1.2.2.2.2.1 h1.2.2.2.2.2.1 h6 (k p e R s m args below meth c H locs ls A aa aa0 n0 h1 h2 h3 h4 h5 h6 h7 h8 h9 h10)
theorem s_iconst {z : Int} (hd : decode (a_mb y) pc = .ok (.iconst z, 1)) : a_go l D cA ex L xs d ce sl y pc lv st h ce sl (pc + 1) lv (.int (Int32.ofInt z) :: st) h := a_pure fun hx hb _ _ _ k => lv_iconst hx hb hd rfl k
theorem a_i8 {z : Int} (h1 : -128 ≤ z) (h2 : z < 128) : (Int8.ofInt z).toInt32 = Int32.ofInt z := by
  apply Int32.toInt_inj.mp
  rw [Int8.toInt_toInt32, Int8.toInt_ofInt_of_le (by omega) (by omega), Int32.toInt_ofInt_of_le (by omega) (by omega)]
theorem a_i16 {z : Int} (h1 : -32768 ≤ z) (h2 : z < 32768) : (Int16.ofInt z).toInt32 = Int32.ofInt z := by
  apply Int32.toInt_inj.mp
  rw [Int16.toInt_toInt32, Int16.toInt_ofInt_of_le (by omega) (by omega), Int32.toInt_ofInt_of_le (by omega) (by omega)]
theorem s_bipush {z : Int} (hd : decode (a_mb y) pc = .ok (.bipush z, 2)) (hz : -128 ≤ z ∧ z < 128) : a_go l D cA ex L xs d ce sl y pc lv st h ce sl (pc + 2) lv (.int (Int32.ofInt z) :: st) h := a_pure fun hx hb _ _ _ k => lv_bipush hx hb hd (a_i8 hz.1 hz.2) k
theorem s_sipush {z : Int} (hd : decode (a_mb y) pc = .ok (.sipush z, 3)) (hz : -32768 ≤ z ∧ z < 32768) : a_go l D cA ex L xs d ce sl y pc lv st h ce sl (pc + 3) lv (.int (Int32.ofInt z) :: st) h := a_pure fun hx hb _ _ _ k => lv_sipush hx hb hd (a_i16 hz.1 hz.2) k
theorem s_lconst {z : Fin 2} (hd : decode (a_mb y) pc = .ok (.lconst z, 1)) : a_go l D cA ex L xs d ce sl y pc lv st h ce sl (pc + 1) lv (.long (Int64.ofNat z) :: st) h := a_pure fun hx hb _ _ _ k => lv_lconst hx hb hd rfl k
theorem a_ldI_of {Lv : List Value} {i : Nat} {x : Int32} (h : a_ldI Lv i = some x) : Lv[i]? = some (.int x) := by
  unfold a_ldI at h
  split at h
  · rename_i q hq; cases h; exact hq
  · cases h
theorem a_ldL_of {Lv : List Value} {i : Nat} {x : Int64} (h : a_ldL Lv i = some x) : Lv[i]? = some (.long x) := by
  unfold a_ldL at h
  split at h
  · rename_i q hq; cases h; exact hq
  · cases h
theorem a_ldR_of2 {Lv : List Value} {i x : Nat} (h : a_ldR Lv i = some x) : Lv[i]? = some (.ref x) ∧ x ≠ 1003 := by
  unfold a_ldR at h
  split at h
  · rename_i q hq
    split at h
    · cases h
    · rename_i hn; cases h; exact ⟨hq, hn⟩
  · cases h
theorem s_iload_n {k : Fin 4} {x : Int32} (hd : decode (a_mb y) pc = .ok (.iload_n k, 1)) (hl : a_ldI lv k = some x) : a_go l D cA ex L xs d ce sl y pc lv st h ce sl (pc + 1) lv (.int x :: st) h := a_pure fun hx hb _ _ hr k => lv_iload_n hx hb hd rfl (hr.2.2.2 _ _ (a_ldI_of hl) (by simp)) k
theorem s_iload {k : Nat} {x : Int32} (hd : decode (a_mb y) pc = .ok (.iload k, 2)) (hl : a_ldI lv k = some x) : a_go l D cA ex L xs d ce sl y pc lv st h ce sl (pc + 2) lv (.int x :: st) h := a_pure fun hx hb _ _ hr k => lv_iload hx hb hd (hr.2.2.2 _ _ (a_ldI_of hl) (by simp)) k
theorem s_lload_n {k : Fin 4} {x : Int64} (hd : decode (a_mb y) pc = .ok (.lload_n k, 1)) (hl : a_ldL lv k = some x) : a_go l D cA ex L xs d ce sl y pc lv st h ce sl (pc + 1) lv (.long x :: st) h := a_pure fun hx hb _ _ hr k => lv_lload_n hx hb hd rfl (hr.2.2.2 _ _ (a_ldL_of hl) (by simp)) k
theorem a_rv_ref {aa : Nat → Nat} {x : Nat} (hx : x ≠ 1003) : a_rv ex aa (.ref x) = .ref (aa x) := by simp [a_rv, hx]
theorem s_aload_n {k : Fin 4} {x : Nat} (hd : decode (a_mb y) pc = .ok (.aload_n k, 1)) (hl : a_ldR lv k = some x) : a_go l D cA ex L xs d ce sl y pc lv st h ce sl (pc + 1) lv (.ref x :: st) h := a_pure fun {_ _ _ _ _ _ _ _ _ _ _ _ _ _ _ aa} hx hb _ _ hr k => by
  have h1 := hr.2.2.2 _ _ (a_ldR_of2 hl).1 (by simp)
  rw [a_rv_ref (a_ldR_of2 hl).2] at h1
  rw [List.map_cons, a_rv_ref (a_ldR_of2 hl).2] at k
  exact lv_aload_n hx hb hd rfl h1 k
theorem s_aload {k : Nat} {x : Nat} (hd : decode (a_mb y) pc = .ok (.aload k, 2)) (hl : a_ldR lv k = some x) : a_go l D cA ex L xs d ce sl y pc lv st h ce sl (pc + 2) lv (.ref x :: st) h := a_pure fun {_ _ _ _ _ _ _ _ _ _ _ _ _ _ _ aa} hx hb _ _ hr k => by
  have h1 := hr.2.2.2 _ _ (a_ldR_of2 hl).1 (by simp)
  rw [a_rv_ref (a_ldR_of2 hl).2] at h1
  rw [List.map_cons, a_rv_ref (a_ldR_of2 hl).2] at k
  exact lv_aload hx hb hd h1 k
theorem s_iadd {x z : Int32} (hd : decode (a_mb y) pc = .ok (.iadd, 1)) : a_go l D cA ex L xs d ce sl y pc lv (.int x :: .int z :: st) h ce sl (pc + 1) lv (.int (z + x) :: st) h := a_pure fun hx hb _ _ _ k => lv_iadd hx hb hd k
theorem s_isub {x z : Int32} (hd : decode (a_mb y) pc = .ok (.isub, 1)) : a_go l D cA ex L xs d ce sl y pc lv (.int x :: .int z :: st) h ce sl (pc + 1) lv (.int (z - x) :: st) h := a_pure fun hx hb _ _ _ k => lv_isub hx hb hd k
theorem s_imul {x z : Int32} (hd : decode (a_mb y) pc = .ok (.imul, 1)) : a_go l D cA ex L xs d ce sl y pc lv (.int x :: .int z :: st) h ce sl (pc + 1) lv (.int (z * x) :: st) h := a_pure fun hx hb _ _ _ k => lv_imul hx hb hd k
theorem s_iand {x z : Int32} (hd : decode (a_mb y) pc = .ok (.iand, 1)) : a_go l D cA ex L xs d ce sl y pc lv (.int x :: .int z :: st) h ce sl (pc + 1) lv (.int (z &&& x) :: st) h := a_pure fun hx hb _ _ _ k => lv_iand hx hb hd k
theorem s_ior {x z : Int32} (hd : decode (a_mb y) pc = .ok (.ior, 1)) : a_go l D cA ex L xs d ce sl y pc lv (.int x :: .int z :: st) h ce sl (pc + 1) lv (.int (z ||| x) :: st) h := a_pure fun hx hb _ _ _ k => lv_ior hx hb hd k
theorem s_ixor {x z : Int32} (hd : decode (a_mb y) pc = .ok (.ixor, 1)) : a_go l D cA ex L xs d ce sl y pc lv (.int x :: .int z :: st) h ce sl (pc + 1) lv (.int (z ^^^ x) :: st) h := a_pure fun hx hb _ _ _ k => lv_ixor hx hb hd k
theorem s_ishl {x z : Int32} (hd : decode (a_mb y) pc = .ok (.ishl, 1)) : a_go l D cA ex L xs d ce sl y pc lv (.int x :: .int z :: st) h ce sl (pc + 1) lv (.int (z <<< (x &&& 31)) :: st) h := a_pure fun hx hb _ _ _ k => lv_ishl hx hb hd k
theorem s_ishr {x z : Int32} (hd : decode (a_mb y) pc = .ok (.ishr, 1)) : a_go l D cA ex L xs d ce sl y pc lv (.int x :: .int z :: st) h ce sl (pc + 1) lv (.int (z >>> (x &&& 31)) :: st) h := a_pure fun hx hb _ _ _ k => lv_ishr hx hb hd k
theorem s_iushr {x z : Int32} (hd : decode (a_mb y) pc = .ok (.iushr, 1)) : a_go l D cA ex L xs d ce sl y pc lv (.int x :: .int z :: st) h ce sl (pc + 1) lv (.int (z.toUInt32 >>> (x.toUInt32 &&& Int32.toUInt32 31)).toInt32 :: st) h := a_pure fun hx hb _ _ _ k => lv_iushr hx hb hd rfl k
theorem s_ladd {x z : Int64} (hd : decode (a_mb y) pc = .ok (.ladd, 1)) : a_go l D cA ex L xs d ce sl y pc lv (.long x :: .long z :: st) h ce sl (pc + 1) lv (.long (z + x) :: st) h := a_pure fun hx hb _ _ _ k => lv_ladd hx hb hd k
theorem s_lsub {x z : Int64} (hd : decode (a_mb y) pc = .ok (.lsub, 1)) : a_go l D cA ex L xs d ce sl y pc lv (.long x :: .long z :: st) h ce sl (pc + 1) lv (.long (z - x) :: st) h := a_pure fun hx hb _ _ _ k => lv_lsub hx hb hd k
theorem s_lmul {x z : Int64} (hd : decode (a_mb y) pc = .ok (.lmul, 1)) : a_go l D cA ex L xs d ce sl y pc lv (.long x :: .long z :: st) h ce sl (pc + 1) lv (.long (z * x) :: st) h := a_pure fun hx hb _ _ _ k => lv_lmul hx hb hd k
theorem s_land {x z : Int64} (hd : decode (a_mb y) pc = .ok (.land, 1)) : a_go l D cA ex L xs d ce sl y pc lv (.long x :: .long z :: st) h ce sl (pc + 1) lv (.long (z &&& x) :: st) h := a_pure fun hx hb _ _ _ k => lv_land hx hb hd k
theorem s_lor {x z : Int64} (hd : decode (a_mb y) pc = .ok (.lor, 1)) : a_go l D cA ex L xs d ce sl y pc lv (.long x :: .long z :: st) h ce sl (pc + 1) lv (.long (z ||| x) :: st) h := a_pure fun hx hb _ _ _ k => lv_lor hx hb hd k
theorem s_lxor {x z : Int64} (hd : decode (a_mb y) pc = .ok (.lxor, 1)) : a_go l D cA ex L xs d ce sl y pc lv (.long x :: .long z :: st) h ce sl (pc + 1) lv (.long (z ^^^ x) :: st) h := a_pure fun hx hb _ _ _ k => lv_lxor hx hb hd k
theorem s_lshl {x : Int32} {z : Int64} (hd : decode (a_mb y) pc = .ok (.lshl, 1)) : a_go l D cA ex L xs d ce sl y pc lv (.int x :: .long z :: st) h ce sl (pc + 1) lv (.long (z <<< (x.toInt64 &&& 63)) :: st) h := a_pure fun hx hb _ _ _ k => lv_lshl hx hb hd rfl k
theorem s_lshr {x : Int32} {z : Int64} (hd : decode (a_mb y) pc = .ok (.lshr, 1)) : a_go l D cA ex L xs d ce sl y pc lv (.int x :: .long z :: st) h ce sl (pc + 1) lv (.long (z >>> (x.toInt64 &&& 63)) :: st) h := a_pure fun hx hb _ _ _ k => lv_lshr hx hb hd rfl k
theorem s_lushr {x : Int32} {z : Int64} (hd : decode (a_mb y) pc = .ok (.lushr, 1)) : a_go l D cA ex L xs d ce sl y pc lv (.int x :: .long z :: st) h ce sl (pc + 1) lv (.long ((z.toUInt64 >>> (x.toInt64.toUInt64 &&& Int64.toUInt64 63)).toInt64) :: st) h := a_pure fun hx hb _ _ _ k => lv_lushr hx hb hd rfl k
theorem s_i2l {x : Int32} (hd : decode (a_mb y) pc = .ok (.i2l, 1)) : a_go l D cA ex L xs d ce sl y pc lv (.int x :: st) h ce sl (pc + 1) lv (.long (x.toInt64) :: st) h := a_pure fun hx hb _ _ _ k => lv_i2l hx hb hd rfl k
theorem s_l2i {x : Int64} (hd : decode (a_mb y) pc = .ok (.l2i, 1)) : a_go l D cA ex L xs d ce sl y pc lv (.long x :: st) h ce sl (pc + 1) lv (.int (x.toInt32) :: st) h := a_pure fun hx hb _ _ _ k => lv_l2i hx hb hd rfl k
theorem s_i2b {x : Int32} (hd : decode (a_mb y) pc = .ok (.i2b, 1)) : a_go l D cA ex L xs d ce sl y pc lv (.int x :: st) h ce sl (pc + 1) lv (.int (x.toInt8.toInt32) :: st) h := a_pure fun hx hb _ _ _ k => lv_i2b hx hb hd rfl k
theorem s_i2c {x : Int32} (hd : decode (a_mb y) pc = .ok (.i2c, 1)) : a_go l D cA ex L xs d ce sl y pc lv (.int x :: st) h ce sl (pc + 1) lv (.int ((x.toUInt32 % 65536).toInt32) :: st) h := a_pure fun hx hb _ _ _ k => lv_i2c hx hb hd rfl k
theorem s_ineg {x : Int32} (hd : decode (a_mb y) pc = .ok (.ineg, 1)) : a_go l D cA ex L xs d ce sl y pc lv (.int x :: st) h ce sl (pc + 1) lv (.int (-x) :: st) h := a_pure fun hx hb _ _ _ k => lv_ineg hx hb hd k
theorem s_idiv {x z : Int32} (hd : decode (a_mb y) pc = .ok (.idiv, 1)) (hx0 : ¬ x = 0) : a_go l D cA ex L xs d ce sl y pc lv (.int x :: .int z :: st) h ce sl (pc + 1) lv (.int (z / x) :: st) h := a_pure fun hx hb _ _ _ k => lv_idiv hx hb hd hx0 k
theorem s_irem {x z : Int32} (hd : decode (a_mb y) pc = .ok (.irem, 1)) (hx0 : ¬ x = 0) : a_go l D cA ex L xs d ce sl y pc lv (.int x :: .int z :: st) h ce sl (pc + 1) lv (.int (z - z / x * x) :: st) h := a_pure fun hx hb _ _ _ k => lv_irem hx hb hd hx0 k
theorem s_lcmp {x z : Int64} (hd : decode (a_mb y) pc = .ok (.lcmp, 1)) : a_go l D cA ex L xs d ce sl y pc lv (.long x :: .long z :: st) h ce sl (pc + 1) lv (.int (lg_cmp z x) :: st) h := a_pure fun hx hb _ _ _ k => W.lcmp hx hb hd k
theorem s_dup {v : Value} (he : a_exok ex) (hd : decode (a_mb y) pc = .ok (.dup, 1)) (hv : v.category = 1) : a_go l D cA ex L xs d ce sl y pc lv (v :: st) h ce sl (pc + 1) lv (v :: v :: st) h := a_pure fun hx hb _ _ _ k => lv_dup hx hb hd (by rw [a_rv_cat he]; exact hv) k
theorem s_pop {v : Value} (he : a_exok ex) (hd : decode (a_mb y) pc = .ok (.pop, 1)) (hv : v.category = 1) : a_go l D cA ex L xs d ce sl y pc lv (v :: st) h ce sl (pc + 1) lv st h := a_pure fun hx hb _ _ _ k => lv_pop hx hb hd (by rw [a_rv_cat he]; exact hv) k
theorem s_dup2 {v w : Value} (he : a_exok ex) (hd : decode (a_mb y) pc = .ok (.dup2, 1)) (hv : v.category = 1) (hw : w.category = 1) : a_go l D cA ex L xs d ce sl y pc lv (v :: w :: st) h ce sl (pc + 1) lv (v :: w :: v :: w :: st) h := a_pure fun hx hb _ _ _ k => lv_dup2_11 hx hb hd (by rw [a_rv_cat he]; exact hv) (by rw [a_rv_cat he]; exact hw) k
theorem a_tg_of {off : Int} {t : Nat} (h : a_tg pc off = some t) : (pc : Int) + off = (t : Int) := by
  unfold a_tg at h
  split at h
  · cases h; omega
  · cases h
theorem s_goto {off : Int} {t : Nat} (hd : decode (a_mb y) pc = .ok (.goto off, 3)) (ht : a_tg pc off = some t) : a_go l D cA ex L xs d ce sl y pc lv st h ce sl t lv st h := a_pure fun hx hb _ _ _ k => lv_goto hx hb hd (a_tg_of ht) k
theorem s_swOut {dflt lo hi : Int} {offs : Array Int} {t len : Nat} {x : Int32} (hd : decode (a_mb y) pc = .ok (.tableswitch dflt lo hi offs, len)) (hx1 : x.toInt < lo ∨ hi < x.toInt) (ht : a_tg pc dflt = some t) : a_go l D cA ex L xs d ce sl y pc lv (.int x :: st) h ce sl t lv st h := a_pure fun hx hb _ _ _ k => lv_tableOut hx hb hd hx1 (a_tg_of ht) k
theorem s_swIn {dflt lo hi off : Int} {offs : Array Int} {t len : Nat} {x : Int32} (hd : decode (a_mb y) pc = .ok (.tableswitch dflt lo hi offs, len)) (hx1 : ¬ (x.toInt < lo ∨ hi < x.toInt)) (ho : offs[(x.toInt - lo).toNat]? = some off) (ht : a_tg pc off = some t) : a_go l D cA ex L xs d ce sl y pc lv (.int x :: st) h ce sl t lv st h := a_pure fun hx hb _ _ _ k => lv_tableIn hx hb hd (fun q => hx1 (Or.inl q)) (fun q => hx1 (Or.inr q)) ho (a_tg_of ht) k
theorem s_ldcI {i : Nat} {v : Int32} (hd : decode (a_mb y) pc = .ok (.ldc i, 2)) (hv : a_cst (a_mcl y) i = some (.int v)) : a_go l D cA ex L xs d ce sl y pc lv st h ce sl (pc + 2) lv (.int v :: st) h := a_pure fun hx hb ho hts _ k => lv_ldc hx hb ho (hts _ (a_gt_of (a_wK_in _ (List.mem_filter.mpr ⟨a_cst_of hv, rfl⟩)) rfl)) hd k
theorem s_ldcL {i : Nat} {v : Int64} (hd : decode (a_mb y) pc = .ok (.ldc2_w i, 3)) (hv : a_cst (a_mcl y) i = some (.long v)) : a_go l D cA ex L xs d ce sl y pc lv st h ce sl (pc + 3) lv (.long v :: st) h := a_pure fun hx hb ho hts _ k => lv_ldc2 hx hb ho (hts _ (a_gt_of (a_wK_in _ (List.mem_filter.mpr ⟨a_cst_of hv, rfl⟩)) rfl)) hd k
/-- stores -/
theorem a_store {lv' st' : List Value} {pc' : Nat} (hs : ∀ {p : Program} {e : Env} {R : Room} {s : State} {m : MethodId} {args : Array Value} {below : List Frame} {meth : Method} {c : Code} {H : Heap} {locs : List Loc} {cells slots : Nat} {Q : State → Prop} {ls : Array Slot} {aa : Nat → Nat}, p.tables.exec = Jvm.exec → c.code = a_mb y → a_exok ex → a_rl ex aa ls (a_ml y) lv → (∀ ls', a_rl ex aa ls' (a_ml y) lv' → W p l e R s m args below meth c H locs cells slots Q (F0 m pc' ls' (st'.map (a_rv ex aa)))) → W p l e R s m args below meth c H locs cells slots Q (F0 m pc ls (st.map (a_rv ex aa)))) :
    a_go l D cA ex L xs d ce sl y pc lv st h ce sl pc' lv' st' h := by
  intro post k p e R s m args below meth c H locs ls A aa aa0 n0 h1 h2 h3 h4 h5 h6 h7 h8 h9 h10
  exact hs h1.1 h1.2.1 h2.2.2.1 h6 (fun ls' h6' => k p e R s m args below meth c H locs ls' A aa aa0 n0 h1 h2 h3 h4 h5 h6' h7 h8 h9 h10)
theorem s_istore_n {k : Fin 4} {x : Int32} (hd : decode (a_mb y) pc = .ok (.istore_n k, 1)) (hk : (k : Nat) < lv.length) : a_go l D cA ex L xs d ce sl y pc lv (.int x :: st) h ce sl (pc + 1) (a_st1 lv k (.int x)) st h := a_store fun hx hb he hr kk => by
  have hk' : (k : Nat) < a_ml y := by rw [← hr.1]; exact hk
  exact lv_istore_n hx hb hd rfl hr.has hk' rfl (fun ls' hl => kk ls' (hr.st1 he hk' hl))
theorem s_istore {k : Nat} {x : Int32} (hd : decode (a_mb y) pc = .ok (.istore k, 2)) (hk : k < lv.length) : a_go l D cA ex L xs d ce sl y pc lv (.int x :: st) h ce sl (pc + 2) (a_st1 lv k (.int x)) st h := a_store fun hx hb he hr kk => by
  have hk' : k < a_ml y := by rw [← hr.1]; exact hk
  exact lv_istore hx hb hd hr.has hk' rfl (fun ls' hl => kk ls' (hr.st1 he hk' hl))
theorem s_lstore_n {k : Fin 4} {x : Int64} (hd : decode (a_mb y) pc = .ok (.lstore_n k, 1)) (hk : (k : Nat) + 1 < lv.length) : a_go l D cA ex L xs d ce sl y pc lv (.long x :: st) h ce sl (pc + 1) (a_st2 lv k (.long x)) st h := a_store fun hx hb he hr kk => by
  have hk' : (k : Nat) + 1 < a_ml y := by rw [← hr.1]; exact hk
  exact lv_lstore_n hx hb hd rfl hr.has hk' rfl (fun ls' hl => kk ls' (hr.st2 he hk' hl))
theorem s_astore_n {k : Fin 4} {x : Nat} (hd : decode (a_mb y) pc = .ok (.astore_n k, 1)) (hk : (k : Nat) < lv.length) (hx0 : x ≠ 1003) : a_go l D cA ex L xs d ce sl y pc lv (.ref x :: st) h ce sl (pc + 1) (a_st1 lv k (.ref x)) st h := a_store fun {_ _ _ _ _ _ _ _ _ _ _ _ _ _ _ aa} hx hb he hr kk => by
  have hk' : (k : Nat) < a_ml y := by rw [← hr.1]; exact hk
  rw [List.map_cons, a_rv_ref hx0]
  exact lv_astore_n hx hb hd rfl hr.has hk' rfl (fun ls' hl => kk ls' (hr.st1 he hk' (by rw [a_rv_ref hx0]; exact hl)))
theorem s_astore {k : Nat} {x : Nat} (hd : decode (a_mb y) pc = .ok (.astore k, 2)) (hk : k < lv.length) (hx0 : x ≠ 1003) : a_go l D cA ex L xs d ce sl y pc lv (.ref x :: st) h ce sl (pc + 2) (a_st1 lv k (.ref x)) st h := a_store fun {_ _ _ _ _ _ _ _ _ _ _ _ _ _ _ aa} hx hb he hr kk => by
  have hk' : k < a_ml y := by rw [← hr.1]; exact hk
  rw [List.map_cons, a_rv_ref hx0]
  exact lv_astore hx hb hd hr.has hk' rfl (fun ls' hl => kk ls' (hr.st1 he hk' (by rw [a_rv_ref hx0]; exact hl)))
theorem s_iinc {k : Nat} {z : Int} {x : Int32} (hd : decode (a_mb y) pc = .ok (.iinc k z, 3)) (hk : a_ldI lv k = some x) : a_go l D cA ex L xs d ce sl y pc lv st h ce sl (pc + 3) (a_st1 lv k (.int (x + Int32.ofInt z))) st h := a_store fun hx hb he hr kk => by
  have hk1 := a_ldI_of hk
  have hk' : k < a_ml y := by rw [← hr.1]; exact (List.getElem?_eq_some_iff.mp hk1).1
  obtain ⟨j, hj⟩ := List.getElem?_of_mem (a_enl_mem.mpr ⟨.int x, hk1, by simp, rfl⟩ : (k, Value.int x) ∈ a_enl ex _ lv)
  exact lv_iinc hx hb hd hr.has hj rfl hk' rfl (fun ls' hl => kk ls' (hr.st1 he hk' hl))
end SIM2
