/-! Math.floorDiv: its own walk (no row of the natives stands in its place) -/
def fd_x : MethodName := yJ9_floorDiv_7cf53
theorem fd_noRow0 : (NativeRow.find? natives fd_x.cls fd_x.name fd_x.desc).isNone = true := by decide +kernel
theorem fd_noRow (p : Program) : NativeRow.find? p.tables.natives fd_x.cls fd_x.name fd_x.desc = none := by
  cases p <;> exact Option.isNone_iff_eq_none.mp fd_noRow0
abbrev fd_c : ByteArray := cJ9_floorDiv_7cf53
theorem fd_0 : decode fd_c 0 = .ok (.iload_n 0, 1) := by decide +kernel
theorem fd_1 : decode fd_c 1 = .ok (.iload_n 1, 1) := by decide +kernel
theorem fd_2 : decode fd_c 2 = .ok (.idiv, 1) := by decide +kernel
theorem fd_3 : decode fd_c 3 = .ok (.istore_n 2, 1) := by decide +kernel
theorem fd_4 : decode fd_c 4 = .ok (.iload_n 0, 1) := by decide +kernel
theorem fd_5 : decode fd_c 5 = .ok (.iload_n 1, 1) := by decide +kernel
theorem fd_6 : decode fd_c 6 = .ok (.ixor, 1) := by decide +kernel
theorem fd_7 : decode fd_c 7 = .ok (.ifCond .ge 14, 3) := by decide +kernel
theorem fd_10 : decode fd_c 10 = .ok (.iload_n 2, 1) := by decide +kernel
theorem fd_11 : decode fd_c 11 = .ok (.iload_n 1, 1) := by decide +kernel
theorem fd_12 : decode fd_c 12 = .ok (.imul, 1) := by decide +kernel
theorem fd_13 : decode fd_c 13 = .ok (.iload_n 0, 1) := by decide +kernel
theorem fd_14 : decode fd_c 14 = .ok (.if_icmp .eq 7, 3) := by decide +kernel
theorem fd_17 : decode fd_c 17 = .ok (.iload_n 2, 1) := by decide +kernel
theorem fd_18 : decode fd_c 18 = .ok (.iconst 1, 1) := by decide +kernel
theorem fd_19 : decode fd_c 19 = .ok (.isub, 1) := by decide +kernel
theorem fd_20 : decode fd_c 20 = .ok (.ireturn, 1) := by decide +kernel
theorem fd_21 : decode fd_c 21 = .ok (.iload_n 2, 1) := by decide +kernel
theorem fd_22 : decode fd_c 22 = .ok (.ireturn, 1) := by decide +kernel
def fd_spec (a b : Int32) : Spec where
  pre := .and (.code fd_x fd_c 3 (some .int)) (.and (.count 2) (.and (.eq (.arg 0) (.int a)) (.eq (.arg 1) (.int b))))
  post := .and .returned (.eq .result (.int (a_fdiv a b)))
  changes := some []
theorem fd_args {args : Array Value} {s : State} {a b : Int32} (h0 : (Cond.count 2).before args s = true) (h1 : (Cond.eq (.arg 0) (.int a)).before args s = true) (h2 : (Cond.eq (.arg 1) (.int b)).before args s = true) : args = #[.int a, .int b] := by
  obtain ⟨l⟩ := args
  simp only [Cond.before, Cond.holds, Cond.value, Term.eval, List.size_toArray, beq_iff_eq, Option.some.injEq] at h0
  match l, h0 with
  | [x, y], _ =>
    have e1 := va_eqt h1
    have e2 := va_eqt h2
    simp [Term.eval] at e1 e2
    rw [e1, e2]
theorem fd_meets (l : Launch) (a b : Int32) (hb : ¬ b = 0) : MeetsLoose l fd_x (fd_spec a b) := by
  refine MeetsLoose.of_body_ov (code := fd_c) (maxLocals := 3) (ret := some .int) fd_noRow ?_ ?_
  · intro args s h
    simp only [fd_spec, Cond.before_and, Bool.and_eq_true] at h
    exact h.1
  · intro p e s m args below meth c s₁ B
    have hpre := B.pre
    simp only [fd_spec, Cond.before_and, Bool.and_eq_true] at hpre
    obtain rfl := fd_args hpre.2.1 hpre.2.2.1 hpre.2.2.2
    have hloc : argsToLocals #[.int a, .int b] 3 = #[.val (.int a), .val (.int b), .unset] := rfl
    have fin : ∀ r : Int32, (∀ fs, Steps p.tables e below (s₁.setTop (entryFrame m #[.int a, .int b] 3)) (s₁.setFrames fs) ∨ handOver s₁ (some (.int r)) below ≠ some fs) →
        ((fd_spec a b).post.after #[.int a, .int b] s (.returned (some (.int r))) = fun _ => true) →
        ∃ s₂ o, Steps p.tables e below (s₁.setTop (entryFrame m #[.int a, .int b] 3)) s₂ ∧ s₂.status = .running ∧ Ended s₂ below o ∧
          (fd_spec a b).ensures #[.int a, .int b] s o s₂ := by
      intro r hwalk hpost
      obtain ⟨fs, hfs⟩ := handOver_isSome (s := s₁) (some (.int r)) B.hears₁
      refine ⟨s₁.setFrames fs, .returned (some (.int r)), (hwalk fs).resolve_right (fun h => h hfs), B.here.running, B.ended hfs (by intro h; cases h), ?_, State.sameBut_nil.mpr ?_⟩
      · rw [hpost]
      · rw [State.frames_setFrames _ B.cur₁, B.back]
    have hst : storeLocals #[.val (.int a), .val (.int b), .unset] 2 (.int (a / b)) = some #[.val (.int a), .val (.int b), .val (.int (a / b))] := rfl
    by_cases h1 : (a ^^^ b) < 0
    · have h1 : ¬ (0 ≤ a ^^^ b) := Int32.not_le.mpr h1
      have h1' : (a ^^^ b) < 0 := Int32.not_le.mp h1
      by_cases h2 : a / b * b = a
      · refine fin (a / b) (fun fs => ?_) (by funext s'; simp [fd_spec, Cond.after, Cond.holds, Cond.value, Term.eval, a_fdiv, h2])
        by_cases hfs : handOver s₁ (some (.int (a / b))) below = some fs
        · left
          unfold entryFrame; rw [hloc]
          refine Steps.instrAtOv (c := _) (by simpa using B.here) ?_
          simp [jvm, wpRun, exec, B.here.top, B.exec, B.bytes, fd_0]
          refine Steps.instrAtOv (c := _) (by simpa using B.here) ?_
          simp [jvm, wpRun, exec, B.here.top, B.exec, B.bytes, fd_1]
          refine Steps.instrAtOv (c := _) (by simpa using B.here) ?_
          simp [jvm, wpRun, exec, B.here.top, B.exec, B.bytes, fd_2, hb]
          refine Steps.instrAtOv (c := _) (by simpa using B.here) ?_
          simp [jvm, wpRun, exec, B.here.top, B.exec, B.bytes, fd_3, hst]
          refine Steps.instrAtOv (c := _) (by simpa using B.here) ?_
          simp [jvm, wpRun, exec, B.here.top, B.exec, B.bytes, fd_4]
          refine Steps.instrAtOv (c := _) (by simpa using B.here) ?_
          simp [jvm, wpRun, exec, B.here.top, B.exec, B.bytes, fd_5]
          refine Steps.instrAtOv (c := _) (by simpa using B.here) ?_
          simp [jvm, wpRun, exec, B.here.top, B.exec, B.bytes, fd_6]
          refine Steps.instrAtOv (c := _) (by simpa using B.here) ?_
          simp [jvm, wpRun, exec, B.here.top, B.exec, B.bytes, fd_7, ifCond.holds, h1]
          refine Steps.instrAtOv (c := _) (by simpa using B.here) ?_
          simp [jvm, wpRun, exec, B.here.top, B.exec, B.bytes, fd_10]
          refine Steps.instrAtOv (c := _) (by simpa using B.here) ?_
          simp [jvm, wpRun, exec, B.here.top, B.exec, B.bytes, fd_11]
          refine Steps.instrAtOv (c := _) (by simpa using B.here) ?_
          simp [jvm, wpRun, exec, B.here.top, B.exec, B.bytes, fd_12]
          refine Steps.instrAtOv (c := _) (by simpa using B.here) ?_
          simp [jvm, wpRun, exec, B.here.top, B.exec, B.bytes, fd_13]
          refine Steps.instrAtOv (c := _) (by simpa using B.here) ?_
          simp [jvm, wpRun, exec, B.here.top, B.exec, B.bytes, fd_14, if_icmp.holds, h2]
          refine Steps.instrAtOv (c := _) (by simpa using B.here) ?_
          simp [jvm, wpRun, exec, B.here.top, B.exec, B.bytes, fd_21]
          refine Steps.instrAtOv (c := _) (by simpa using B.here) ?_
          simp [jvm, wpRun, exec, B.here.top, B.exec, B.bytes, fd_22, B.method₁, B.returns, narrow]
          intro acts
          rw [ret_to B.frames₁ B.method₁ B.notSynchronized rfl rfl hfs]
          exact Steps.refl _
        · exact Or.inr hfs
      · refine fin (a / b - 1) (fun fs => ?_) (by funext s'; simp [fd_spec, Cond.after, Cond.holds, Cond.value, Term.eval, a_fdiv, h2, h1'])
        by_cases hfs : handOver s₁ (some (.int (a / b - 1))) below = some fs
        · left
          unfold entryFrame; rw [hloc]
          refine Steps.instrAtOv (c := _) (by simpa using B.here) ?_
          simp [jvm, wpRun, exec, B.here.top, B.exec, B.bytes, fd_0]
          refine Steps.instrAtOv (c := _) (by simpa using B.here) ?_
          simp [jvm, wpRun, exec, B.here.top, B.exec, B.bytes, fd_1]
          refine Steps.instrAtOv (c := _) (by simpa using B.here) ?_
          simp [jvm, wpRun, exec, B.here.top, B.exec, B.bytes, fd_2, hb]
          refine Steps.instrAtOv (c := _) (by simpa using B.here) ?_
          simp [jvm, wpRun, exec, B.here.top, B.exec, B.bytes, fd_3, hst]
          refine Steps.instrAtOv (c := _) (by simpa using B.here) ?_
          simp [jvm, wpRun, exec, B.here.top, B.exec, B.bytes, fd_4]
          refine Steps.instrAtOv (c := _) (by simpa using B.here) ?_
          simp [jvm, wpRun, exec, B.here.top, B.exec, B.bytes, fd_5]
          refine Steps.instrAtOv (c := _) (by simpa using B.here) ?_
          simp [jvm, wpRun, exec, B.here.top, B.exec, B.bytes, fd_6]
          refine Steps.instrAtOv (c := _) (by simpa using B.here) ?_
          simp [jvm, wpRun, exec, B.here.top, B.exec, B.bytes, fd_7, ifCond.holds, h1]
          refine Steps.instrAtOv (c := _) (by simpa using B.here) ?_
          simp [jvm, wpRun, exec, B.here.top, B.exec, B.bytes, fd_10]
          refine Steps.instrAtOv (c := _) (by simpa using B.here) ?_
          simp [jvm, wpRun, exec, B.here.top, B.exec, B.bytes, fd_11]
          refine Steps.instrAtOv (c := _) (by simpa using B.here) ?_
          simp [jvm, wpRun, exec, B.here.top, B.exec, B.bytes, fd_12]
          refine Steps.instrAtOv (c := _) (by simpa using B.here) ?_
          simp [jvm, wpRun, exec, B.here.top, B.exec, B.bytes, fd_13]
          refine Steps.instrAtOv (c := _) (by simpa using B.here) ?_
          simp [jvm, wpRun, exec, B.here.top, B.exec, B.bytes, fd_14, if_icmp.holds, h2]
          refine Steps.instrAtOv (c := _) (by simpa using B.here) ?_
          simp [jvm, wpRun, exec, B.here.top, B.exec, B.bytes, fd_17]
          refine Steps.instrAtOv (c := _) (by simpa using B.here) ?_
          simp [jvm, wpRun, exec, B.here.top, B.exec, B.bytes, fd_18]
          refine Steps.instrAtOv (c := _) (by simpa using B.here) ?_
          simp [jvm, wpRun, exec, B.here.top, B.exec, B.bytes, fd_19]
          refine Steps.instrAtOv (c := _) (by simpa using B.here) ?_
          simp [jvm, wpRun, exec, B.here.top, B.exec, B.bytes, fd_20, B.method₁, B.returns, narrow]
          intro acts
          rw [ret_to B.frames₁ B.method₁ B.notSynchronized rfl rfl hfs]
          exact Steps.refl _
        · exact Or.inr hfs
    · have h1' : 0 ≤ a ^^^ b := Int32.not_lt.mp h1
      refine fin (a / b) (fun fs => ?_) (by funext s'; simp [fd_spec, Cond.after, Cond.holds, Cond.value, Term.eval, a_fdiv, h1])
      by_cases hfs : handOver s₁ (some (.int (a / b))) below = some fs
      · left
        unfold entryFrame; rw [hloc]
        refine Steps.instrAtOv (c := _) (by simpa using B.here) ?_
        simp [jvm, wpRun, exec, B.here.top, B.exec, B.bytes, fd_0]
        refine Steps.instrAtOv (c := _) (by simpa using B.here) ?_
        simp [jvm, wpRun, exec, B.here.top, B.exec, B.bytes, fd_1]
        refine Steps.instrAtOv (c := _) (by simpa using B.here) ?_
        simp [jvm, wpRun, exec, B.here.top, B.exec, B.bytes, fd_2, hb]
        refine Steps.instrAtOv (c := _) (by simpa using B.here) ?_
        simp [jvm, wpRun, exec, B.here.top, B.exec, B.bytes, fd_3, hst]
        refine Steps.instrAtOv (c := _) (by simpa using B.here) ?_
        simp [jvm, wpRun, exec, B.here.top, B.exec, B.bytes, fd_4]
        refine Steps.instrAtOv (c := _) (by simpa using B.here) ?_
        simp [jvm, wpRun, exec, B.here.top, B.exec, B.bytes, fd_5]
        refine Steps.instrAtOv (c := _) (by simpa using B.here) ?_
        simp [jvm, wpRun, exec, B.here.top, B.exec, B.bytes, fd_6]
        refine Steps.instrAtOv (c := _) (by simpa using B.here) ?_
        simp [jvm, wpRun, exec, B.here.top, B.exec, B.bytes, fd_7, ifCond.holds, h1']
        refine Steps.instrAtOv (c := _) (by simpa using B.here) ?_
        simp [jvm, wpRun, exec, B.here.top, B.exec, B.bytes, fd_21]
        refine Steps.instrAtOv (c := _) (by simpa using B.here) ?_
        simp [jvm, wpRun, exec, B.here.top, B.exec, B.bytes, fd_22, B.method₁, B.returns, narrow]
        intro acts
        rw [ret_to B.frames₁ B.method₁ B.notSynchronized rfl rfl hfs]
        exact Steps.refl _
      · exact Or.inr hfs
section FDW
variable {p : Program} {l : Launch} {e : Env} {R : Room} {s : State} {m : MethodId} {args : Array Value} {below : List Frame} {meth : Method} {c : Code} {H : Heap} {locs : List Loc} {cells slots : Nat} {Q : State → Prop} {cc : ByteArray} {pc : Nat} {ls : Array Slot} {rest : List Value}
theorem fd_row (hexec : p.tables.exec = Jvm.exec) (hb : c.code = cc) (hml : c.maxLocals = ls.size) {own : String} {index : Nat} (hown : s.vm.findClass own = some m.cls) (hlink : (Cond.methodLink own index fd_x).before args s = true) (hstat : (Cond.static fd_x).before args s = true) (hini : (Cond.initialized "java/lang/Math").before args s = true) (hcode : (Cond.code fd_x fd_c 3 (some .int)).before args s = true)
    (hframes : 1 ≤ R.frames) (hlocals : (rest.map fun v => v.category).sum + 14 ≤ R.locals) (hc : cells ≤ R.cells) (hs : slots ≤ R.slots) {x y : Int32} (hy : ¬ y = 0) (hdg : decode cc pc = .ok (.invokestatic index, 3))
    (kk : W p l e R s m args below meth c H locs cells slots Q (F0 m (pc + 3) ls (.int (a_fdiv x y) :: rest))) : W p l e R s m args below meth c H locs cells slots Q (F0 m pc ls (.int y :: .int x :: rest)) := by
  intro T hT X
  obtain ⟨v, vm', X', ⟨first, t, hpost⟩, hstep⟩ := X.staticByContractV hexec hown hlink hstat hini hcode (by decide) (fd_meets l x y hy) rfl rfl rfl rfl
    (fun args' first o s₂ h => by
      cases o with
      | returned r => exact ⟨r, rfl⟩
      | threw z => simp [fd_spec, Cond.after, Cond.holds, Cond.value] at h)
    (g := F0 m pc ls (.int y :: .int x :: rest)) rfl (by rw [hml]) (argsL := [.int x, .int y]) (rest := rest)
    (fun sig hs => by
      have h : parseMethodDescriptor "(II)I" = some { parameters := [.int, .int], returnType := some .int } := by decide +kernel
      rw [show fd_x.desc = "(II)I" from rfl, h] at hs
      rw [← Option.some.inj hs]; rfl)
    rfl (by rw [hb]; exact hdg)
    (fun vm' hW => by
      simp only [fd_spec, Cond.before_and, Bool.and_eq_true]
      refine ⟨?_, rfl, ?_, ?_⟩
      · have q := hcode
        rw [← Cond.code_setVm hW.alike] at q
        simp only [Cond.before, Cond.holds, Cond.value, State.methodNamed?, State.vm_setVm] at q ⊢
        exact q
      · simp [Cond.before, Cond.holds, Cond.value, Term.eval]
      · simp [Cond.before, Cond.holds, Cond.value, Term.eval])
    (by show 0 + 1 ≤ R.frames; omega) (by show 2 * 0 + (rest.map fun v => v.category).sum + (3 + 11) + 0 ≤ R.locals; omega) (by show cells + 0 ≤ R.cells; omega) (by show slots + 0 ≤ R.slots; omega)
  obtain rfl : v = some (.int (a_fdiv x y)) := by
    rcases v with _ | w
    · simp [fd_spec, Cond.after, Cond.holds, Cond.value, Term.eval] at hpost
    · cases w <;> simp [fd_spec, Cond.after, Cond.holds, Cond.value, Term.eval] at hpost
      rw [hpost]
  obtain ⟨t2, a1, b1⟩ := kk (T.setVm vm') hT X'
  exact ⟨t2, hstep t2 a1, b1⟩
end FDW
