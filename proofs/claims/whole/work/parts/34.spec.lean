/-! frames; what the two objects hold, in words of numbers -/
section FRM
variable {lo hi l1 u1 : Nat} {h h' h1 h2 : aH} {a k : Nat} {i z : Int} {u : Int64} {f : Nat → Int32}
/-- only cells lo .. hi - 1 have changed -/
def Fr (lo hi : Nat) (h h' : aH) : Prop := ∀ a, (a < lo ∨ hi ≤ a) → (∀ k, a_fv h' a k = a_fv h a k) ∧ a_ia h' a = a_ia h a ∧ a_la h' a = a_la h a
theorem Fr.id : Fr lo hi h h := fun _ _ => ⟨fun _ => rfl, rfl, rfl⟩
theorem Fr.trans (f1 : Fr lo hi h h1) (f2 : Fr lo hi h1 h2) : Fr lo hi h h2 := fun a ha => ⟨fun k => ((f2 a ha).1 k).trans ((f1 a ha).1 k), (f2 a ha).2.1.trans (f1 a ha).2.1, (f2 a ha).2.2.trans (f1 a ha).2.2⟩
theorem Fr.mono (f : Fr l1 u1 h h') (hl : lo ≤ l1) (hu : u1 ≤ hi) : Fr lo hi h h' := fun a ha => f a (by omega)
theorem Fr.fv (f : Fr lo hi h h') (ha : a < lo ∨ hi ≤ a) : a_fv h' a k = a_fv h a k := (f a ha).1 k
theorem Fr.ag (f : Fr lo hi h h') (ha : a < lo ∨ hi ≤ a) : ga h' a i = ga h a i := by simp only [ga, (f a ha).2.1]
theorem Fr.fg (f : Fr lo hi h h') (ha : a < lo ∨ hi ≤ a) : gf h' a k = gf h a k := by simp only [gf, (f a ha).1]
theorem Fr.lg (f : Fr lo hi h h') (ha : a < lo ∨ hi ≤ a) : gl h' a i = gl h a i := by simp only [gl, (f a ha).2.2]
theorem Fr.lfg (f : Fr lo hi h h') (ha : a < lo ∨ hi ≤ a) : gfl h' a k = gfl h a k := by simp only [gfl, (f a ha).1]
theorem Fr.iall (g : Fr lo hi h h') (ha : lo ≤ a ∧ a < hi) : Fr lo hi h (a_iall h' a f) := fun b hb => ⟨(g b hb).1, by rw [a_ia_iall, if_neg (by omega)]; exact (g b hb).2.1, (g b hb).2.2⟩
theorem Fr.sA (g : Fr lo hi h h') (ha : lo ≤ a ∧ a < hi) : Fr lo hi h (sa h' a i z) := g.iall ha
theorem Fr.sF (g : Fr lo hi h h') (ha : lo ≤ a ∧ a < hi) : Fr lo hi h (sf h' a k z) := fun b hb => ⟨fun j => (fv_sf_ne (by omega)).trans ((g b hb).1 j), (g b hb).2.1, (g b hb).2.2⟩
theorem Fr.sFL (g : Fr lo hi h h') (ha : lo ≤ a ∧ a < hi) : Fr lo hi h (sfl h' a k u) := fun b hb => ⟨fun j => (fv_sfl_ne (by omega)).trans ((g b hb).1 j), (g b hb).2.1, (g b hb).2.2⟩
theorem Fr.sL (g : Fr lo hi h h') (ha : lo ≤ a ∧ a < hi) : Fr lo hi h (sl_ h' a i u) := fun b hb => ⟨(g b hb).1, (g b hb).2.1, by rw [sl_, a_la_lall, if_neg (by omega)]; exact (g b hb).2.2⟩
end FRM
/-! THE STORY: k CHANGES; S 0 .. 5 their HAND, kind, target, x, y, STAMP; who sees what; what each maker saw; from which on LAWS count; by which BACK each is taken back; the latest STAMP of each HAND -/
def StC (h : aH) (k : Int) (S : Nat → Int → Int) (seen saw : Int → Int64) (mk : Int) (bk lt : Int → Int) : Prop := gf h 3 10 = k ∧ gf h 3 11 = mk ∧ (∀ i, 0 ≤ i → i < k → ga h 4 i = S 0 i ∧ ga h 5 i = S 1 i ∧ ga h 6 i = S 2 i ∧ ga h 7 i = S 3 i ∧ ga h 8 i = S 4 i ∧ ga h 9 i = S 5 i ∧ ga h 10 i = bk i ∧ gl h 11 i = saw i) ∧ (∀ i, 0 ≤ i → i < 3 → gl h 12 i = seen i ∧ ga h 13 i = lt i) ∧ ∀ i, k ≤ i → i < 60 → ga h 7 i = 0 ∧ ga h 8 i = 0
def StM (h : aH) (k : Int) (S : Nat → Int → Int) (seen saw : Int → Int64) (mk : Int) : Prop := gf h 73 17 = k ∧ gf h 73 16 = mk ∧ (∀ i, 0 ≤ i → i < k → ga h 81 i = S 0 i ∧ ga h 82 i = S 1 i ∧ ga h 83 i = S 2 i ∧ ga h 84 i = S 3 i ∧ ga h 85 i = S 4 i ∧ ga h 86 i = S 5 i ∧ gl h 87 i = saw i) ∧ ∀ i, 0 ≤ i → i < 3 → gl h 88 i = seen i
def StO (k : Int) (S : Nat → Int → Int) (seen saw : Int → Int64) (mk : Int) (bk lt : Int → Int) : Prop := (0 ≤ k ∧ k ≤ 60 ∧ 0 ≤ mk ∧ mk ≤ k) ∧ (∀ i, 0 ≤ i → i < k → 0 ≤ S 0 i ∧ S 0 i ≤ 2 ∧ 0 ≤ S 1 i ∧ S 1 i ≤ 3 ∧ 0 ≤ S 2 i ∧ (S 1 i = 0 → S 2 i ≤ 5) ∧ (S 1 i = 3 → S 2 i < i ∧ S 0 (S 2 i) = S 0 i) ∧ (S 1 i ≠ 3 → S 2 i ≤ 11) ∧ 0 ≤ S 3 i ∧ S 3 i ≤ 19 ∧ 0 ≤ S 4 i ∧ S 4 i ≤ 19 ∧ 1 ≤ S 5 i ∧ S 5 i ≤ i + 1 ∧ lb (seen (S 0 i)) i ∧ ∀ j, i ≤ j → j < 64 → ¬ lb (saw i) j) ∧ (∀ c, 0 ≤ c → c < k → (bk c = -1 ∧ ∀ o, 0 ≤ o → o < k → ¬ (S 1 o = 3 ∧ S 2 o = c)) ∨ (c < bk c ∧ bk c < k ∧ S 1 (bk c) = 3 ∧ S 2 (bk c) = c ∧ ∀ o, 0 ≤ o → o < k → S 1 o = 3 → S 2 o = c → o = bk c)) ∧ (∀ i, 0 ≤ i → i < 3 → 0 ≤ lt i ∧ lt i ≤ k ∧ (∀ o, 0 ≤ o → o < k → lb (seen i) o → S 5 o ≤ lt i) ∧ (lt i = 0 ∨ ∃ o, 0 ≤ o ∧ o < k ∧ lb (seen i) o ∧ S 5 o = lt i)) ∧ ∀ i, 0 ≤ i → i < 3 → ∀ j, k ≤ j → j < 64 → ¬ lb (seen i) j
section ST
variable {h : aH} {k mk : Int} {S : Nat → Int → Int} {seen saw : Int → Int64} {bk lt : Int → Int} {i : Int}
theorem StC.n (q : StC h k S seen saw mk bk lt) : gf h 3 10 = k := q.1
theorem StC.m (q : StC h k S seen saw mk bk lt) : gf h 3 11 = mk := q.2.1
theorem StC.s0 (q : StC h k S seen saw mk bk lt) (h0 : 0 ≤ i) (h1 : i < k) : ga h 4 i = S 0 i := (q.2.2.1 i h0 h1).1
theorem StC.s1 (q : StC h k S seen saw mk bk lt) (h0 : 0 ≤ i) (h1 : i < k) : ga h 5 i = S 1 i := (q.2.2.1 i h0 h1).2.1
theorem StC.s2 (q : StC h k S seen saw mk bk lt) (h0 : 0 ≤ i) (h1 : i < k) : ga h 6 i = S 2 i := (q.2.2.1 i h0 h1).2.2.1
theorem StC.s3 (q : StC h k S seen saw mk bk lt) (h0 : 0 ≤ i) (h1 : i < k) : ga h 7 i = S 3 i := (q.2.2.1 i h0 h1).2.2.2.1
theorem StC.s4 (q : StC h k S seen saw mk bk lt) (h0 : 0 ≤ i) (h1 : i < k) : ga h 8 i = S 4 i := (q.2.2.1 i h0 h1).2.2.2.2.1
theorem StC.s5 (q : StC h k S seen saw mk bk lt) (h0 : 0 ≤ i) (h1 : i < k) : ga h 9 i = S 5 i := (q.2.2.1 i h0 h1).2.2.2.2.2.1
theorem StC.b (q : StC h k S seen saw mk bk lt) (h0 : 0 ≤ i) (h1 : i < k) : ga h 10 i = bk i := (q.2.2.1 i h0 h1).2.2.2.2.2.2.1
theorem StC.w (q : StC h k S seen saw mk bk lt) (h0 : 0 ≤ i) (h1 : i < k) : gl h 11 i = saw i := (q.2.2.1 i h0 h1).2.2.2.2.2.2.2
theorem StC.v (q : StC h k S seen saw mk bk lt) (h0 : 0 ≤ i) (h1 : i < 3) : gl h 12 i = seen i := (q.2.2.2.1 i h0 h1).1
theorem StC.l (q : StC h k S seen saw mk bk lt) (h0 : 0 ≤ i) (h1 : i < 3) : ga h 13 i = lt i := (q.2.2.2.1 i h0 h1).2
theorem StC.fr {lo hi : Nat} {h' : aH} (q : StC h k S seen saw mk bk lt) (f : Fr lo hi h h') (hc : hi ≤ 3 ∨ 14 ≤ lo) : StC h' k S seen saw mk bk lt := by
  unfold StC
  simp (disch := omega) only [f.ag, f.fg, f.lg]
  exact q
theorem StM.n (q : StM h k S seen saw mk) : gf h 73 17 = k := q.1
theorem StM.m (q : StM h k S seen saw mk) : gf h 73 16 = mk := q.2.1
theorem StM.s0 (q : StM h k S seen saw mk) (h0 : 0 ≤ i) (h1 : i < k) : ga h 81 i = S 0 i := (q.2.2.1 i h0 h1).1
theorem StM.s1 (q : StM h k S seen saw mk) (h0 : 0 ≤ i) (h1 : i < k) : ga h 82 i = S 1 i := (q.2.2.1 i h0 h1).2.1
theorem StM.s2 (q : StM h k S seen saw mk) (h0 : 0 ≤ i) (h1 : i < k) : ga h 83 i = S 2 i := (q.2.2.1 i h0 h1).2.2.1
theorem StM.s3 (q : StM h k S seen saw mk) (h0 : 0 ≤ i) (h1 : i < k) : ga h 84 i = S 3 i := (q.2.2.1 i h0 h1).2.2.2.1
theorem StM.s4 (q : StM h k S seen saw mk) (h0 : 0 ≤ i) (h1 : i < k) : ga h 85 i = S 4 i := (q.2.2.1 i h0 h1).2.2.2.2.1
theorem StM.s5 (q : StM h k S seen saw mk) (h0 : 0 ≤ i) (h1 : i < k) : ga h 86 i = S 5 i := (q.2.2.1 i h0 h1).2.2.2.2.2.1
theorem StM.w (q : StM h k S seen saw mk) (h0 : 0 ≤ i) (h1 : i < k) : gl h 87 i = saw i := (q.2.2.1 i h0 h1).2.2.2.2.2.2
theorem StM.v (q : StM h k S seen saw mk) (h0 : 0 ≤ i) (h1 : i < 3) : gl h 88 i = seen i := q.2.2.2 i h0 h1
theorem StO.r (q : StO k S seen saw mk bk lt) (h0 : 0 ≤ i) (h1 : i < k) : (0 ≤ k ∧ k ≤ 60 ∧ 0 ≤ mk ∧ mk ≤ k) ∧ 0 ≤ S 0 i ∧ S 0 i ≤ 2 ∧ 0 ≤ S 1 i ∧ S 1 i ≤ 3 ∧ 0 ≤ S 2 i ∧ (S 1 i = 0 → S 2 i ≤ 5) ∧ (S 1 i = 3 → S 2 i < i) ∧ (S 1 i ≠ 3 → S 2 i ≤ 11) ∧ 0 ≤ S 3 i ∧ S 3 i ≤ 19 ∧ 0 ≤ S 4 i ∧ S 4 i ≤ 19 ∧ 1 ≤ S 5 i ∧ S 5 i ≤ i + 1 ∧ -1 ≤ bk i ∧ bk i < k := by
  have a := q.2.1 i h0 h1
  have b := q.2.2.1 i h0 h1
  refine ⟨q.1, a.1, a.2.1, a.2.2.1, a.2.2.2.1, a.2.2.2.2.1, a.2.2.2.2.2.1, fun e => (a.2.2.2.2.2.2.1 e).1, a.2.2.2.2.2.2.2.1, a.2.2.2.2.2.2.2.2.1, a.2.2.2.2.2.2.2.2.2.1, a.2.2.2.2.2.2.2.2.2.2.1, a.2.2.2.2.2.2.2.2.2.2.2.1, a.2.2.2.2.2.2.2.2.2.2.2.2.1, a.2.2.2.2.2.2.2.2.2.2.2.2.2.1, ?_, ?_⟩
  · rcases b with b | b
    · omega
    · omega
  · rcases b with b | b
    · omega
    · omega
end ST
