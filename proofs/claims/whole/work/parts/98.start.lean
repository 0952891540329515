/-! FROM THE LAW'S ENTRY: the abstract machine's run gives the walk -/
def R_law : String := "HandsPictureLaw"
def lw_P (b : Addr) (xs : List Int32) (args : Array Value) (s : State) : Prop := args = #[.ref b] ∧ s.IntsAt b xs ∧ xs.length ≤ 2560 ∧ (Jvm.Cond.and given_1 narrow_1).before args s = true
def lw_Q (_ : Array Value) (s : State) (o : Outcome) (t : State) : Prop := o = .returned (some (.int 1)) ∧ Framed s o t [] 100 3422
def lw_Z (below : List Frame) (a : Array Value) (s : State) : State → Prop := fun t => ∃ o, t.status = .running ∧ Ended t below o ∧ lw_Q a s o t
def lw_At (p : Program) (s : State) (m : MethodId) (meth : Method) (c : Code) (b L : Nat) (xs : Nat → Int32) : Prop :=
  p.tables.exec = Jvm.exec ∧ c.code = code ∧ meth.sig.returnType = ret ∧ c.maxLocals = 4 ∧ s.vm.findClass R_law = some m.cls ∧ (∀ w ∈ lw_tbl, w.before #[Value.ref b] s = true) ∧ va_X b L xs s s.heap ∧ b < s.heap.size ∧ meth.locks = false ∧ (Jvm.Cond.and given_1 narrow_1).before #[Value.ref b] s = true
/-- the heap at the start: nothing made yet, the outer things -/
def a_h0 (L : Nat) (xs : Nat → Int32) : aH := (fun i => if i < 1000 then (0, 0, 0) else a_xsh L i, fun _ _ => .null, fun i => if i < 1000 then (fun _ => 0) else a_xia xs i, fun _ _ => 0, 0)
abbrev a_flt : List Cond := flatC (Jvm.Cond.and given_1 narrow_1)
theorem a_n1 : Cond.eq (.static "java/lang/String" "COMPACT_STRINGS" "Z") (.int 1) ∈ a_flt := by decide +kernel
theorem a_n2 : Cond.isRef (.static "jdk/internal/util/Preconditions" "SIOOBE_FORMATTER" "Ljava/util/function/BiFunction;") ∈ a_flt := by decide +kernel
theorem a_n3 : Cond.arrayOf (.static "HandsPicture$Laws" "AXIS" "[I") .int ∈ a_flt ∧ Cond.eq (.length (.static "HandsPicture$Laws" "AXIS" "[I")) (.int 6) ∈ a_flt := by decide +kernel
theorem a_n4 : ∀ j, j < 6 → Cond.eq (.elem (.static "HandsPicture$Laws" "AXIS" "[I") (.int (Int32.ofNat j))) (.int (a_axis.getD j 0)) ∈ a_flt := by decide +kernel
theorem a_n5 : Cond.arrayOf (.static "HandsPicture$Laws" "STIFF" "[I") .int ∈ a_flt ∧ Cond.eq (.length (.static "HandsPicture$Laws" "STIFF" "[I")) (.int 6) ∈ a_flt := by decide +kernel
theorem a_n6 : ∀ j, j < 6 → Cond.eq (.elem (.static "HandsPicture$Laws" "STIFF" "[I") (.int (Int32.ofNat j))) (.int (a_stiff.getD j 0)) ∈ a_flt := by decide +kernel
def a_tm (i : Nat) : Term := .string "HandsPicture$Reader" (90 + 2 * i)
theorem a_n7 : ∀ i, i < 8 → Cond.exactly (a_tm i) "java/lang/String" ∈ a_flt ∧ Cond.eq (.field (a_tm i) "java/lang/String" "coder" "B") (.int 0) ∈ a_flt ∧ Cond.arrayOf (.field (a_tm i) "java/lang/String" "value" "[B") .byte ∈ a_flt ∧ Cond.eq (.length (.field (a_tm i) "java/lang/String" "value" "[B")) (.int (Int32.ofNat (a_len.getD i 0))) ∈ a_flt := by decide +kernel
theorem a_n8 : ∀ i, i < 8 → ∀ j, j < a_len.getD i 0 → Cond.eq (.elem (.field (a_tm i) "java/lang/String" "value" "[B") (.int (Int32.ofNat j))) (.int ((a_byt.getD i []).getD j 0)) ∈ a_flt := by decide +kernel
theorem a_n9 : ∀ i, i < 8 → ∀ j, j < 8 → i ≠ j → Cond.not (Cond.eq (a_tm i) (a_tm j)) ∈ a_flt ∨ Cond.not (Cond.eq (a_tm j) (a_tm i)) ∈ a_flt := by decide +kernel
theorem a_t1 : ∀ i, i < 8 → Cond.stringRef "HandsPicture$Reader" (90 + 2 * i) (a_txt.getD i "") ∈ lw_tbl := by decide +kernel
theorem a_t2 : Cond.laysStatic "java/lang/String" "COMPACT_STRINGS" "Z" ∈ lw_tbl ∧ Cond.laysStatic "jdk/internal/util/Preconditions" "SIOOBE_FORMATTER" "Ljava/util/function/BiFunction;" ∈ lw_tbl ∧ Cond.laysStatic "HandsPicture$Laws" "STIFF" "[I" ∈ lw_tbl ∧ Cond.laysStatic "HandsPicture$Laws" "AXIS" "[I" ∈ lw_tbl ∧ Cond.initialized "java/lang/String" ∈ lw_tbl ∧ Cond.initialized "jdk/internal/util/Preconditions" ∈ lw_tbl ∧ Cond.initialized "HandsPicture$Laws" ∈ lw_tbl := by decide +kernel
theorem a_inst : ∀ ci, ci < 13 → Cond.instantiable (a_cnm ci) (a_nf ci) ∈ lw_tbl := by decide +kernel
/-- the outer world, of what the Statement gives -/
theorem a_start_env {p : Program} {s : State} {m : MethodId} {meth : Method} {c : Code} {b L : Nat} {xs : Nat → Int32} (hL : L ≤ 2560) (C0 : lw_At p s m meth c b L xs) : ∃ (D : va_G) (cA : Nat → ClassId) (ex : Value) (aa : Nat → Nat), aa 1000 = b ∧ a_env D cA ex L xs aa (fun q => s.heap.size ≤ q) s := by
  obtain ⟨hx, hb, hr, hml, hown, hts, hX, hbl, hlocks, hgv⟩ := C0
  have hs := flat_of_before _ hgv
  have hA : ∀ a : Nat, a < s.heap.size → ¬ (fun q : Nat => s.heap.size ≤ q) a := fun a h => Nat.not_le.mpr h
  obtain ⟨t1, t2, t3, t4, t5, t6, t7⟩ := a_t2
  -- kinds
  have hkn : ∀ k : Nat, ∃ w : ClassId × (Nat → Nat), ∀ q, vwCl[k]? = some q → u_Kn s q.1 q.2.1 q.2.2 w.1 w.2 := by
    intro k
    by_cases hk : k < 13
    · obtain ⟨C, T, ty, hC, hok, hnm, -⟩ := a_cl_all hk
      obtain ⟨c0, i0, h0⟩ := u_known (C := C) (T := T) (N := a_nf k) (n := a_nf k) hts (fun w hw => (List.mem_filter.mp (hok.1 w hw)).1) (by rw [← hnm]; exact hts _ (a_inst k hk))
      exact ⟨(c0, i0), fun q hq => by cases hC.symm.trans hq; exact h0⟩
    · exact ⟨(0, fun _ => 0), fun q hq => absurd (List.getElem?_eq_some_iff.mp hq).1 hk⟩
  obtain ⟨w, hw⟩ := Classical.axiomOfChoice hkn
  have harr : ∀ ty, Cond.arrayClass ty ∈ a_misc → (∀ U c, U.vm.findClass ("[" ++ ty.toString) = some c → va_RA U c ty) → ∃ c, ArrOfT s c ty ∧ va_RA s c ty := by
    intro ty hm hra
    obtain ⟨c0, k0, comp, g1, g2, g3⟩ := Cond.arrayClass_spec (hts _ (a_misc_in _ hm))
    exact ⟨c0, fun n z => ⟨fun k h => (by cases h), k0, g2, comp, g3⟩, hra _ _ g1⟩
  obtain ⟨cI, hI⟩ := harr .int (by simp [a_misc]) (fun U c h => h)
  obtain ⟨cB, hB⟩ := harr .byte (by simp [a_misc]) (fun U c h => h)
  obtain ⟨cZ, hZ⟩ := harr .boolean (by simp [a_misc]) (fun U c h => h)
  obtain ⟨cJ, hJ⟩ := harr .long (by simp [a_misc]) (fun U c h => h)
  -- statics
  obtain ⟨ta, hta, hTa⟩ := va_Tof (ty := .int) (N := 6) (f := fun j => .int (a_axis.getD j 0)) (A := fun q => s.heap.size ≤ q) (by decide) (hs _ a_n3.1) (va_eqt (hs _ a_n3.2)) (fun j hj => va_eqt (hs _ (a_n4 j hj))) hA
  obtain ⟨tb, htb, hTb⟩ := va_Tof (ty := .int) (N := 6) (f := fun j => .int (a_stiff.getD j 0)) (A := fun q => s.heap.size ≤ q) (by decide) (hs _ a_n5.1) (va_eqt (hs _ a_n5.2)) (fun j hj => va_eqt (hs _ (a_n6 j hj))) hA
  obtain ⟨adK, adV, hvk, hev⟩ := vk_Sof (N := 8) (tm := a_tm) (len := a_len) (byt := a_byt) (A := fun q => s.heap.size ≤ q) (by decide) (fun i hi => hs _ (a_n7 i hi).1) (fun i hi => hs _ (a_n7 i hi).2.1) (fun i hi => hs _ (a_n7 i hi).2.2.1) (fun i hi => hs _ (a_n7 i hi).2.2.2) (fun i hi j hj => hs _ (a_n8 i hi j hj)) (fun i j hi hj hij => (a_n9 i hi j hj hij).elim (fun z => Or.inl (hs _ z)) (fun z => Or.inr (hs _ z))) hA
  have hz1 := va_Zof (A := fun q => s.heap.size ≤ q) (hts _ t1) (hts _ t5) (va_eqi (hs _ a_n1)) hA
  have hzq := va_Zqof (A := fun q => s.heap.size ≤ q) (hts _ t2) (hts _ t6) (hs _ a_n2) hA
  have hza := va_Zref (A := fun q => s.heap.size ≤ q) (hts _ t4) (hts _ t7) hta hA
  have hzb := va_Zref (A := fun q => s.heap.size ≤ q) (hts _ t3) (hts _ t7) htb hA
  have hex : ∃ ex, a_exok ex ∧ va_Z "jdk/internal/util/Preconditions" "SIOOBE_FORMATTER" "Ljava/util/function/BiFunction;" ex (fun q => s.heap.size ≤ q) s s.heap := by
    rcases hzq with z | ⟨t, z⟩
    · exact ⟨_, Or.inl rfl, z⟩
    · exact ⟨_, Or.inr ⟨t, rfl⟩, z⟩
  obtain ⟨ex, hexo, hze⟩ := hex
  refine ⟨(fun k => (w k).1, fun k => (w k).2), fun k => if k = 0 then cI else if k = 1 then cB else if k = 2 then cZ else cJ, ex, fun i => if i = 1000 then b else if i = 1001 then ta else if i = 1002 then tb else if i < 1020 then adK (i - 1010) else adV (i - 1020), rfl, ?_⟩
  refine ⟨⟨fun k q hq => hw k q hq, fun k q hq => ?_⟩, fun z hz => ?_, hexo, ?_, hTa, hTb, hza, hzb, hze, hz1, fun i hi => ?_, ?_⟩
  · match k, hq with
    | 0, hq => cases hq; exact hI
    | 1, hq => cases hq; exact hB
    | 2, hq => cases hq; exact hZ
    | 3, hq => cases hq; exact hJ
    | k + 4, hq => simp [a_tys] at hq
  · have hn := List.mem_filter.mp hz
    have h1 := hts _ hn.1
    have h2 := hn.2
    split at h2
    · exact va_Nw.of rfl h1
    · cases h2
  · obtain ⟨scr, g1, g2, g3, g4, g5⟩ := hX
    exact ⟨scr, g1, g2, g3, by rw [g4]; exact Nat.le_refl _, by rw [g4], g5, hA b hbl⟩
  · have h1 := hev i hi
    have e1 : (if 1010 + i = 1000 then b else if 1010 + i = 1001 then ta else if 1010 + i = 1002 then tb else if 1010 + i < 1020 then adK (1010 + i - 1010) else adV (1010 + i - 1020)) = adK i := by
      rw [if_neg (by omega), if_neg (by omega), if_neg (by omega), if_pos (by omega), show 1010 + i - 1010 = i by omega]
    show vk_R _ _ _ (if 1010 + i = 1000 then b else _) s
    rw [e1]
    exact vk_R.of (hts _ (a_t1 i hi)) h1
  · have e1 : (fun i => if 1010 + i = 1000 then b else if 1010 + i = 1001 then ta else if 1010 + i = 1002 then tb else if 1010 + i < 1020 then adK (1010 + i - 1010) else adV (1010 + i - 1020)) = fun i => if i < 10 then adK i else adV (i - 10) := by
      funext i
      rw [if_neg (by omega), if_neg (by omega), if_neg (by omega), show 1010 + i - 1010 = i by omega, show 1010 + i - 1020 = i - 10 by omega]
      by_cases h : i < 10
      · rw [if_pos h, if_pos (by omega)]
      · rw [if_neg h, if_neg (by omega)]
    have e2 : (fun i => if 1020 + i = 1000 then b else if 1020 + i = 1001 then ta else if 1020 + i = 1002 then tb else if 1020 + i < 1020 then adK (1020 + i - 1010) else adV (1020 + i - 1020)) = adV := by
      funext i
      rw [if_neg (by omega), if_neg (by omega), if_neg (by omega), if_neg (by omega), show 1020 + i - 1020 = i by omega]
    show vk_S 8 a_len a_byt (fun i => if 1010 + i = 1000 then b else _) (fun i => if 1020 + i = 1000 then b else _) _ s s.heap
    rw [e1, e2]
    refine ⟨fun i hi => ?_, fun i j hi hj hij => ?_⟩
    · dsimp only; rw [if_pos (by omega)]; exact hvk.1 i hi
    · dsimp only at hij; rw [if_pos (by omega), if_pos (by omega)] at hij; exact hvk.2 i j hi hj hij
theorem a_ml262 : a_ml 262 = 4 ∧ a_mr 262 = some .boolean ∧ a_mc 262 = 100 ∧ a_ms 262 = 3422 ∧ (a_mnm 262).name = "law" ∧ a_own (a_mcl 262) = R_law := ⟨rfl, rfl, rfl, rfl, rfl, rfl⟩
/-- THE LAW, from its entry, if the abstract machine's run of it answers 1 -/
theorem whole_start_of {p : Program} {e : Env} {s : State} {m : MethodId} {below : List Frame} {meth : Method} {c : Code} (l : Launch) {b L : Nat} {xs : Nat → Int32} (hL : L ≤ 2560) (C0 : lw_At p s m meth c b L xs) (hR : R 14 0 0 262 0 [.ref 1000, .null, .null, .null] [] (a_h0 L xs) (fun r _ => r = some (.int 1))) : W p l e room_1 s m #[Value.ref b] below meth c s.heap [] 0 0 (lw_Z below #[Value.ref b] s) (entryFrame m ([Value.ref b] : List Value).toArray 4) := by
  obtain ⟨D, cA, ex, aa, hab, henv⟩ := a_start_env hL C0
  obtain ⟨hx, hb, hr, hml, hown, hts, hX, hbl, hlocks, hgv⟩ := C0
  have C : a_ctx p room_1 s m #[Value.ref b] meth c 14 262 := ⟨hx, hb, hr, hml, hown, fun w hw => hts w (List.mem_filter.mp hw).1, hlocks, fun z => absurd z (by decide), by decide, by decide, rfl, rfl⟩
  have hws : a_ws cA ex aa (a_h0 L xs) = [] := rfl
  have hwd : a_wd D cA ex L xs aa (a_h0 L xs) s.heap (fun q => s.heap.size ≤ q) := by
    refine ⟨by rw [hws]; exact fun k q h => by simp at h, by rw [hws]; exact ⟨fun i j p q h => by simp at h, fun k q h => by simp at h⟩, Nat.zero_le _, fun i hi => Or.inl ?_, fun i hi => ⟨?_, ?_⟩⟩
    · simp [a_h0, a_sh, hi]
    · have : ¬ i < 1000 := by omega
      simp [a_h0, a_sh, this]
    · have : ¬ i < 1000 := by omega
      simp [a_h0, a_ia, this]
  have hen := a_rl.entry (aa := aa) (as := [.ref 1000]) (n := 4) henv.2.2.1 (by decide)
  have q := a_run (l := l) (D := D) (cA := cA) (L := L) (xs := xs) henv.2.2.1 hR p e room_1 s m #[Value.ref b] below meth c s.heap [] _ (fun q => s.heap.size ≤ q) aa aa 0 C henv (fun _ h => h) hwd va_S.rf hen ⟨fun _ => rfl, fun _ _ => rfl⟩ (Nat.le_refl _) (Nat.zero_le _) (Nat.zero_le _)
  have e1 : ([Value.ref 1000] : List Value).map (a_rv ex aa) = [Value.ref b] := by simp [a_rv, hab]
  rw [e1] at q
  rw [lg_entry_eq]
  intro T hT X
  obtain ⟨t, a1, o, b1, b2, ⟨⟨r, h', aa', c1, c2, c3⟩, b4⟩, Lc, b5, b6⟩ := q T hT X
  subst c2
  refine ⟨t, a1, o, b1, b2, c1, b5.1, b5.2.1, ?_⟩
  exact b5.2.2.weaken (fun y hy hlt => absurd hlt (Nat.not_lt.mpr (b6 y hy))) (Nat.le_refl _) (Nat.le_refl _)
